import java.io.ByteArrayOutputStream;
import java.nio.charset.StandardCharsets;
import java.util.ArrayList;
import java.util.Arrays;
import java.util.List;

/**
 * The document once more, for ModelTest, in the plainest form that shares nothing with the class: a RUN is
 * done anew from its first STEP for each look at it, what is ABOVE is found by its definition.
 */
final class Model {
    private static final int NONE = -1;

    /** One open CALL; the METHOD of main has no home. */
    private static final class Call {
        final ModelText.Member method;
        final int self;
        final int[] variables = new int[16];
        int statement = NONE;

        Call(ModelText.Member method, int self) {
            this.method = method;
            this.self = self;
        }
    }

    private record Thing(ModelText.Decl of, int[] owners, int[] fields) {
    }

    /** Leaves the tree that is walked: no STEP is left (0), a TROUBLE, or (by value) a return. */
    private static final class Leave extends RuntimeException {
        private static final long serialVersionUID = 1;
        final int trouble;
        final int value;

        Leave(int trouble, int value) {
            super(null, null, false, false);
            this.trouble = trouble;
            this.value = value;
        }
    }

    private static final int RETURNED = -1;

    private final ByteArrayOutputStream tape = new ByteArrayOutputStream();
    private ModelText program;
    private int faultNumber = NONE;
    private int faultPlace = NONE;
    private int phase;
    private int words;
    private int calls;
    private int limit;
    private int result;
    private int trouble;
    private int place = NONE;
    private int steps;
    private int taken;
    private int most;
    private final List<Call> open = new ArrayList<>();
    private final List<Thing> things = new ArrayList<>();
    private final List<Integer> numbers = new ArrayList<>();

    int feed(int... ints) {
        if (tape.size() + 20 > 3000) {
            return NONE;
        }
        for (int value : ints) {
            for (int shift = 24; shift >= 0; shift -= 8) {
                tape.write(value >>> shift);
            }
        }
        return tape.size();
    }

    int load(int n, boolean trust) {
        if (n < 0 || n > tape.size()) {
            return NONE;
        }
        String text = new String(tape.toByteArray(), 0, n, StandardCharsets.ISO_8859_1);
        tape.reset();
        try {
            ModelText read = new ModelText(text);
            new ModelTypes(read, trust);
            program = read;
            faultNumber = 0;
            faultPlace = NONE;
            begin(0, 0, 0);
            open.clear();
            most = 0;
        } catch (ModelText.Fault fault) {
            faultNumber = fault.number;
            faultPlace = fault.place;
        }
        return faultNumber;
    }

    private void begin(int as, int newWords, int newCalls) {
        phase = as;
        words = newWords;
        calls = newCalls;
        result = 0;
        trouble = 0;
        place = NONE;
        steps = 0;
        taken = 0;
        open.clear();
        things.clear();
        numbers.clear();
        open.add(new Call(program.main, 0));
        most = 1;
    }

    int fault(int what) {
        return what == 0 ? faultNumber : what == 1 ? faultPlace : NONE;
    }

    private ModelText.Decl decl(int c) {
        return program == null || c < 0 || c >= program.decls.size() ? null : program.decls.get(c);
    }

    int type(int c, int what) {
        ModelText.Decl decl = decl(c);
        if (decl == null || what < 0 || what > 5) {
            return NONE;
        }
        int methods = (int) decl.members.stream().filter(member -> member.block != null).count();
        int above = decl.above == null ? NONE : decl.above.of().number;
        int[] answers = {decl.names.size(), above, fieldsOf(decl).size(), methods, decl.ins.size(), decl.name.place()};
        return answers[what];
    }

    private static List<ModelText.Member> fieldsOf(ModelText.Decl decl) {
        List<ModelText.Member> fields = decl.above == null ? new ArrayList<>() : fieldsOf(decl.above.of());
        decl.members.stream().filter(member -> member.block == null).forEach(fields::add);
        return fields;
    }

    boolean isIn(int c, int i, int j) {
        ModelText.Decl decl = decl(c);
        if (decl == null || i < -2 || j < -2 || i >= decl.names.size() || j >= decl.names.size()) {
            return false;
        }
        return ModelTypes.isIn(decl, ownerSpelled(decl, i), ownerSpelled(decl, j));
    }

    private static String ownerSpelled(ModelText.Decl decl, int i) {
        return i == -2 ? "this" : i == NONE ? "world" : decl.names.get(i);
    }

    boolean start(int newWords, int newCalls) {
        if (program == null || newWords < 8 || newWords > 4000 || newCalls < 1 || newCalls > 40) {
            return false;
        }
        begin(1, newWords, newCalls);
        limit = 0;
        return true;
    }

    int run(int n) {
        if (n < 1 || n > 2000 || phase != 1) {
            return NONE;
        }
        limit += n;
        begin(1, words, calls);
        try {
            result = bodyOf(open.get(0));
            phase = 2;
            open.clear();
        } catch (Leave leave) {
            if (leave.trouble > 0) {
                phase = 3;
                trouble = leave.trouble;
                place = leave.value;
                open.clear();
            }
        }
        return phase;
    }

    private int bodyOf(Call call) {
        try {
            work(call.method.block);
            return 0;
        } catch (Leave leave) {
            if (leave.trouble != RETURNED) {
                throw leave;
            }
            return leave.value;
        }
    }

    private Call top() {
        return open.get(open.size() - 1);
    }

    private void step() {
        if (steps == limit) {
            throw new Leave(0, 0);
        }
        steps++;
    }

    private static void failIf(boolean is, int number, ModelText.Token at) {
        if (is) {
            throw new Leave(number, at.place());
        }
    }

    private void work(ModelText.Node node) {
        if (node.op.equals("block")) {
            node.parts.forEach(this::work);
            return;
        }
        step();
        top().statement = node.first.place();
        switch (node.op) {
            case "if":
                if (value(node.part(0)) != 0) {
                    work(node.part(1));
                } else if (node.parts.size() > 2) {
                    work(node.part(2));
                }
                break;
            case "while":
                step();
                while (value(node.part(0)) != 0) {
                    work(node.part(1));
                    step();
                }
                break;
            case "return":
                throw new Leave(RETURNED, value(node.part(0)));
            case "say":
                numbers.add(value(node.part(0)));
                break;
            case "do":
                value(node.part(0));
                break;
            default:
                set(node.part(0), node.part(1));
                break;
        }
    }

    private void set(ModelText.Node left, ModelText.Node right) {
        if (left.op.equals("name")) {
            int value = value(right);
            top().variables[left.slot] = value;
            return;
        }
        int o = value(left.part(0));
        int value = value(right);
        failIf(o == 0, 1, left.at);
        thing(o).fields[slotOf(o, left.member)] = value;
    }

    private Thing thing(int o) {
        return things.get(o - 1);
    }

    private int slotOf(int o, ModelText.Member field) {
        return fieldsOf(thing(o).of).indexOf(field);
    }

    private int value(ModelText.Node node) {
        switch (node.op) {
            case "NUMBER":
                return Integer.parseInt(node.at.text());
            case "null":
                return 0;
            case "this":
                return top().self;
            case "name":
                return top().variables[node.slot];
            case "paren":
                return value(node.part(0));
            case "new":
                step();
                return made(node);
            case "as":
                int cast = value(node.part(0));
                step();
                failIf(cast != 0 && !isOf(thing(cast), node.type), 3, node.at);
                return cast;
            case "field":
                int o = value(node.part(0));
                step();
                failIf(o == 0, 1, node.at);
                return thing(o).fields[slotOf(o, node.member)];
            case "call":
                return called(node);
            default:
                return operated(node);
        }
    }

    private int made(ModelText.Node node) {
        ModelText.Decl of = node.type.of();
        int owners = of.names.size();
        int fields = fieldsOf(of).size();
        failIf(taken + 2 + owners + fields > words, 4, node.at);
        taken += 2 + owners + fields;
        int[] row = new int[owners];
        for (int i = 0; i < owners; i++) {
            row[i] = ownerHere(node.type.owners().get(i));
        }
        things.add(new Thing(of, row, new int[fields]));
        return things.size();
    }

    private int ownerHere(String owner) {
        if (owner.equals("world")) {
            return 0;
        }
        int self = top().self;
        if (owner.equals("this")) {
            return self;
        }
        ModelText.Decl home = top().method.home;
        return ownerSeen(thing(self), seenAs(thing(self), home), home.names.indexOf(owner));
    }

    /** The TYPE of an OBJECT, told by its own CLASS's NAMES, as that CLASS; null if it is none. */
    private static ModelTypes.Type seenAs(Thing thing, ModelText.Decl as) {
        ModelTypes.Type seen = ModelTypes.own(thing.of);
        while (seen != null && seen.of() != as) {
            seen = ModelTypes.up(seen);
        }
        return seen;
    }

    private static int ownerSeen(Thing thing, ModelTypes.Type seen, int i) {
        int name = thing.of.names.indexOf(seen.owners().get(i));
        return name < 0 ? 0 : thing.owners[name];
    }

    private boolean isOf(Thing thing, ModelTypes.Type type) {
        ModelTypes.Type seen = seenAs(thing, type.of());
        boolean same = seen != null;
        for (int i = 0; same && i < type.owners().size(); i++) {
            same = ownerSeen(thing, seen, i) == ownerHere(type.owners().get(i));
        }
        return same;
    }

    private int called(ModelText.Node node) {
        int[] values = new int[node.parts.size()];
        for (int i = 0; i < values.length; i++) {
            values[i] = value(node.part(i));
        }
        step();
        failIf(values[0] == 0, 1, node.at);
        failIf(open.size() >= calls, 5, node.at);
        String name = node.at.text();
        ModelText.Decl of = ModelTypes.seenWith(ModelTypes.own(thing(values[0]).of), name, true).of();
        Call call = new Call(ModelTypes.memberOf(of, name), values[0]);
        System.arraycopy(values, 1, call.variables, 0, values.length - 1);
        open.add(call);
        most = Math.max(most, open.size());
        int given = bodyOf(call);
        open.remove(open.size() - 1);
        return given;
    }

    private int operated(ModelText.Node node) {
        int left = value(node.part(0));
        int right = node.parts.size() > 1 ? value(node.part(1)) : 0;
        step();
        switch (node.op) {
            case "negate":
                return -left;
            case "+":
                return left + right;
            case "-":
                return left - right;
            case "*":
                return left * right;
            case "<":
                return left < right ? 1 : 0;
            case "==":
                return left == right ? 1 : 0;
            case "!=":
                return left != right ? 1 : 0;
            default:
                failIf(right == 0, 2, node.at);
                return node.op.equals("/") ? left / right : left % right;
        }
    }

    int state(int what) {
        int[] answers = {phase, result, trouble, place, steps, taken, things.size(), open.size(), most, numbers.size()};
        return what < 0 || what > 9 ? NONE : answers[what];
    }

    int said(int k) {
        return k < 0 || k >= 200 || k >= numbers.size() ? 0 : numbers.get(k);
    }

    int call(int i, int what) {
        if (i < 0 || i >= open.size() || what < 0 || what > 3) {
            return NONE;
        }
        Call call = open.get(i);
        ModelText.Decl home = call.method.home;
        int which = NONE;
        for (int k = 0; home != null && k <= home.members.indexOf(call.method); k++) {
            which += home.members.get(k).block == null ? 0 : 1;
        }
        int[] answers = {home == null ? NONE : home.number, which, call.self, call.statement};
        return answers[what];
    }

    int variable(int i, int k) {
        boolean isThere = i >= 0 && i < open.size() && k >= 0 && k < open.get(i).method.variables;
        return isThere ? open.get(i).variables[k] : 0;
    }

    private boolean isObject(int o) {
        return o > 0 && o <= things.size();
    }

    private int ownerOf(int o) {
        return thing(o).owners[0];
    }

    int object(int o, int what) {
        if (!isObject(o) || what < 0 || what > 4) {
            return NONE;
        }
        int inside = 0;
        for (int a = ownerOf(o); a != 0; a = ownerOf(a)) {
            inside++;
        }
        int[] answers = {thing(o).of.number, ownerOf(o), thing(o).owners.length, thing(o).fields.length, inside};
        return answers[what];
    }

    int owner(int o, int i) {
        return isObject(o) && i >= 0 && i < thing(o).owners.length ? thing(o).owners[i] : NONE;
    }

    int field(int o, int i) {
        return isObject(o) && i >= 0 && i < thing(o).fields.length ? thing(o).fields[i] : 0;
    }

    boolean isInside(int a, int b) {
        if (!isObject(a) || b != 0 && !isObject(b)) {
            return false;
        }
        return a == b || b == 0 || ownerOf(a) != 0 && isInside(ownerOf(a), b);
    }

    /** All that is come to from those, in order, but through shut; from[o] is where from (0: one of those). */
    private int[] spread(List<Integer> those, int shut) {
        int[] from = new int[things.size() + 1];
        Arrays.fill(from, NONE);
        List<Integer> reached = new ArrayList<>();
        for (int o : those) {
            come(o, 0, shut, from, reached);
        }
        for (int i = 0; i < reached.size(); i++) {
            int o = reached.get(i);
            List<ModelText.Member> fields = fieldsOf(thing(o).of);
            for (int k = 0; k < fields.size(); k++) {
                come(fields.get(k).type.isKind() ? thing(o).fields[k] : 0, o, shut, from, reached);
            }
        }
        return from;
    }

    private static void come(int o, int before, int shut, int[] from, List<Integer> reached) {
        if (o != 0 && o != shut && from[o] == NONE) {
            from[o] = before;
            reached.add(o);
        }
    }

    private List<Integer> roots() {
        List<Integer> roots = new ArrayList<>();
        for (int o = 1; o <= things.size(); o++) {
            if (ownerOf(o) == 0) {
                roots.add(o);
            }
        }
        return roots;
    }

    private static List<Integer> wayTo(int o, int[] from) {
        List<Integer> way = new ArrayList<>();
        for (int a = o; a > 0; a = from[a]) {
            way.add(0, a);
        }
        return way;
    }

    int way(int a, int b) {
        if (!isObject(a) || !isObject(b)) {
            return NONE;
        }
        int[] from = spread(List.of(a), 0);
        return from[b] == NONE ? NONE : wayTo(b, from).size() - 1;
    }

    private boolean isAbove(int b, int a) {
        return b != a && spread(roots(), b)[a] == NONE;
    }

    int above(int o) {
        if (!isObject(o)) {
            return NONE;
        }
        int[] from = spread(roots(), 0);
        if (from[o] == NONE) {
            return NONE;
        }
        List<Integer> all = new ArrayList<>(wayTo(o, from));
        all.removeIf(b -> !isAbove(b, o));
        for (int b : all) {
            if (all.stream().allMatch(other -> other == b || isAbove(other, b))) {
                return b;
            }
        }
        return 0;
    }

    private boolean isLeak(int o) {
        return ownerOf(o) != 0 && spread(roots(), ownerOf(o))[o] != NONE;
    }

    int leaks() {
        int many = 0;
        for (int o = 1; o <= things.size(); o++) {
            many += isLeak(o) ? 1 : 0;
        }
        return many;
    }

    int leak(int i) {
        int left = i;
        for (int o = 1; o <= things.size() && left >= 0; o++) {
            left -= isLeak(o) ? 1 : 0;
            if (left < 0) {
                return o;
            }
        }
        return NONE;
    }

    int past(int o, int i) {
        if (!isObject(o) || !isLeak(o)) {
            return NONE;
        }
        List<Integer> way = wayTo(o, spread(roots(), ownerOf(o)));
        return i < 0 || i >= way.size() ? NONE : way.get(i);
    }
}
