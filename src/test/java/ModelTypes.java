import java.util.ArrayDeque;
import java.util.ArrayList;
import java.util.Deque;
import java.util.HashSet;
import java.util.List;
import java.util.Set;

/** Terms 2 of the document, and the FAULTS from 4 on in their order, once more, for ModelTest. */
final class ModelTypes {
    static final Type INT = new Type(null, List.of("int"));
    static final Type NULL = new Type(null, List.of("null"));

    /** int, null, or a CLASS with its OWNERS, each as it is spelled. */
    record Type(ModelText.Decl of, List<String> owners) {
        boolean isKind() {
            return of != null;
        }

        boolean hasThis() {
            return owners.contains("this");
        }
    }

    private record Variable(String name, Type type, int slot) {
    }

    private final ModelText text;
    private final boolean trust;
    private ModelText.Member within;
    private final List<Variable> known = new ArrayList<>();
    private int told;

    ModelTypes(ModelText text, boolean trust) {
        this.text = text;
        this.trust = trust;
        judgeNames();
        judgeAboves();
        judgeIns();
        judgeMembers();
        judgeOvers();
        for (ModelText.Decl decl : text.decls) {
            for (ModelText.Member member : decl.members) {
                judgeBlock(member);
            }
        }
        text.main.type = INT;
        judgeBlock(text.main);
    }

    private static void refuse(boolean is, int number, ModelText.Token at) {
        if (is) {
            throw new ModelText.Fault(number, at);
        }
    }

    static Type own(ModelText.Decl decl) {
        return new Type(decl, decl.names);
    }

    /** The NAMES of the CLASS of seen stand for its OWNERS. */
    static Type standing(Type type, Type seen) {
        if (!type.isKind()) {
            return type;
        }
        List<String> owners = new ArrayList<>();
        for (String owner : type.owners) {
            int i = seen.of.names.indexOf(owner);
            owners.add(i < 0 ? owner : seen.owners.get(i));
        }
        return new Type(type.of, owners);
    }

    static Type up(Type type) {
        return type.of.above == null ? null : standing(type.of.above, type);
    }

    static boolean fits(Type type, Type wanted) {
        if (type.equals(NULL)) {
            return !wanted.equals(INT);
        }
        if (type.equals(wanted)) {
            return true;
        }
        return type.isKind() && up(type) != null && fits(up(type), wanted);
    }

    /** All OWNERS that one is IN, gone through one behind the other. */
    static boolean isIn(ModelText.Decl decl, String inner, String outer) {
        Set<String> seen = new HashSet<>(Set.of(inner));
        Deque<String> left = new ArrayDeque<>(seen);
        while (!left.isEmpty()) {
            for (String further : toldIn(decl, left.remove())) {
                if (seen.add(further)) {
                    left.add(further);
                }
            }
        }
        return seen.contains(outer);
    }

    private static List<String> toldIn(ModelText.Decl decl, String owner) {
        List<String> found = new ArrayList<>(List.of("world"));
        if (decl == null) {
            return found;
        }
        if (owner.equals("this")) {
            found.add(decl.names.get(0));
        }
        if (owner.equals(decl.names.get(0))) {
            found.addAll(decl.names);
        }
        for (ModelText.Token[] in : decl.ins) {
            if (in[0].text().equals(owner)) {
                found.add(in[1].text());
            }
        }
        return found;
    }

    private static boolean isNested(ModelText.Decl decl, Type type) {
        boolean nested = true;
        for (String owner : type.owners) {
            nested &= isIn(decl, type.owners.get(0), owner);
        }
        for (ModelText.Token[] in : type.of.ins) {
            String inner = type.owners.get(type.of.names.indexOf(in[0].text()));
            nested &= isIn(decl, inner, type.owners.get(type.of.names.indexOf(in[1].text())));
        }
        return nested;
    }

    /** A TYPE from above, from the nearest on, that has such a MEMBER told; null if none has. */
    static Type seenWith(Type type, String name, boolean isMethod) {
        Type seen = type;
        while (seen != null) {
            ModelText.Member found = memberOf(seen.of, name);
            if (found != null && (found.block != null) == isMethod) {
                return seen;
            }
            seen = up(seen);
        }
        return null;
    }

    static ModelText.Member memberOf(ModelText.Decl decl, String name) {
        for (ModelText.Member member : decl.members) {
            if (member.name.text().equals(name)) {
                return member;
            }
        }
        return null;
    }

    private ModelText.Decl declNamed(String name) {
        for (ModelText.Decl decl : text.decls) {
            if (decl.name.text().equals(name)) {
                return decl;
            }
        }
        return null;
    }

    private static void refuseTwice(List<ModelText.Token> tokens, ModelText.Token at) {
        for (ModelText.Token token : tokens) {
            if (token == at) {
                return;
            }
            refuse(token.text().equals(at.text()), 4, at);
        }
    }

    private void judgeNames() {
        List<ModelText.Token> ahead = new ArrayList<>();
        for (ModelText.Decl decl : text.decls) {
            refuseTwice(ahead, decl.name);
            ahead.add(decl.name);
            for (ModelText.Token name : decl.nameTokens) {
                refuseTwice(decl.nameTokens, name);
            }
        }
    }

    private void judgeAboves() {
        for (ModelText.Decl decl : text.decls) {
            if (decl.is != null) {
                decl.above = kind(decl.aboveTold, decl, true);
                refuse(!decl.above.owners.get(0).equals(decl.names.get(0)), 11, decl.is);
            }
        }
        for (ModelText.Decl decl : text.decls) {
            Set<ModelText.Decl> gone = new HashSet<>();
            Type above = decl.above;
            while (above != null && gone.add(above.of)) {
                refuse(above.of == decl, 11, decl.is);
                above = above.of.above;
            }
        }
    }

    private void judgeIns() {
        for (ModelText.Decl decl : text.decls) {
            for (ModelText.Token[] in : decl.ins) {
                refuse(!decl.names.contains(in[0].text()), 5, in[0]);
                refuse(!decl.names.contains(in[1].text()), 5, in[1]);
            }
        }
    }

    private void judgeMembers() {
        for (ModelText.Decl decl : text.decls) {
            if (decl.above != null) {
                refuse(!trust && !isNested(decl, decl.above), 8, decl.aboveTold.name());
            }
            for (ModelText.Member member : decl.members) {
                member.type = type(member.told, decl);
                refuse(memberOf(decl, member.name.text()) != member, 4, member.name);
                for (int i = 0; i < member.paramsTold.size(); i++) {
                    member.params.add(type(member.paramsTold.get(i), decl));
                    refuseTwice(member.paramNames, member.paramNames.get(i));
                }
            }
        }
    }

    private void judgeOvers() {
        for (ModelText.Decl decl : text.decls) {
            for (ModelText.Member member : decl.members) {
                for (Type above = up(own(decl)); above != null; above = up(above)) {
                    ModelText.Member other = memberOf(above.of, member.name.text());
                    refuse(other != null && (other.block == null || member.block == null), 4, member.name);
                }
                Type seen = decl.above == null ? null : seenWith(up(own(decl)), member.name.text(), true);
                refuse(seen != null && !isOver(member, memberOf(seen.of, member.name.text()), seen), 9, member.name);
            }
        }
    }

    private static boolean isOver(ModelText.Member member, ModelText.Member other, Type seen) {
        List<Type> params = new ArrayList<>();
        for (Type param : other.params) {
            params.add(standing(param, seen));
        }
        return member.type.equals(standing(other.type, seen)) && member.params.equals(params);
    }

    private Type type(ModelText.Told told, ModelText.Decl decl) {
        return told.name().kind().equals("int") ? INT : kind(told, decl, false);
    }

    private Type kind(ModelText.Told told, ModelText.Decl decl, boolean behindIs) {
        ModelText.Decl of = declNamed(told.name().text());
        refuse(of == null, 5, told.name());
        refuse(of.names.size() != told.owners().size(), 6, told.name());
        List<String> owners = new ArrayList<>();
        for (ModelText.Token owner : told.owners()) {
            boolean isThere = owner.kind().equals("world") || decl != null
                && (owner.kind().equals("this") ? !behindIs : decl.names.contains(owner.text()));
            refuse(!isThere, 5, owner);
            owners.add(owner.text());
        }
        Type made = new Type(of, owners);
        refuse(!behindIs && !trust && !isNested(decl, made), 8, told.name());
        return made;
    }

    private void judgeBlock(ModelText.Member member) {
        if (member.block == null) {
            return;
        }
        within = member;
        known.clear();
        told = 0;
        for (int i = 0; i < member.params.size(); i++) {
            know(member.paramNames.get(i).text(), member.params.get(i));
        }
        judge(member.block);
    }

    private int know(String name, Type type) {
        known.add(new Variable(name, type, told));
        told++;
        return told - 1;
    }

    private Variable knownAs(String name) {
        for (Variable variable : known) {
            if (variable.name.equals(name)) {
                return variable;
            }
        }
        return null;
    }

    private void judge(ModelText.Node node) {
        switch (node.op) {
            case "block":
                List<Variable> before = new ArrayList<>(known);
                node.parts.forEach(this::judge);
                known.retainAll(before);
                break;
            case "if":
            case "while":
                refuse(!judged(node.part(0)).equals(INT), 7, node.at);
                node.parts.subList(1, node.parts.size()).forEach(this::judge);
                break;
            case "return":
            case "say":
                Type wanted = node.op.equals("say") ? INT : within.type;
                refuse(!fits(judged(node.part(0)), wanted), 7, node.at);
                break;
            case "tell":
                judgeTelling(node);
                break;
            case "do":
                judged(node.part(0));
                break;
            default:
                Type left = judged(node.part(0));
                refuse(!fits(judged(node.part(1)), left), 7, node.at);
                break;
        }
    }

    private void judgeTelling(ModelText.Node node) {
        ModelText.Node name = node.part(0);
        Type type = type(node.told, within.home);
        refuse(knownAs(name.at.text()) != null, 4, name.at);
        refuse(!fits(judged(node.part(1)), type), 7, node.at);
        name.slot = know(name.at.text(), type);
    }

    private Type judged(ModelText.Node node) {
        node.type = typeOf(node);
        return node.type;
    }

    private Type typeOf(ModelText.Node node) {
        switch (node.op) {
            case "NUMBER":
                return INT;
            case "null":
                return NULL;
            case "this":
                refuse(within.home == null, 5, node.at);
                return own(within.home);
            case "name":
                Variable variable = knownAs(node.at.text());
                refuse(variable == null, 5, node.at);
                node.slot = variable.slot;
                return variable.type;
            case "new":
                return kind(node.told, within.home, false);
            case "paren":
                return judged(node.part(0));
            case "as":
                Type from = judged(node.part(0));
                Type made = kind(node.told, within.home, false);
                refuse(from.equals(INT), 7, node.at);
                return made;
            case "field":
            case "call":
                return member(node);
            default:
                return operator(node);
        }
    }

    private Type operator(ModelText.Node node) {
        int ints = 0;
        for (ModelText.Node part : node.parts) {
            ints += judged(part).equals(INT) ? 1 : 0;
        }
        boolean isSame = node.op.equals("==") || node.op.equals("!=");
        refuse(ints != node.parts.size() && !(isSame && ints == 0), 7, node.at);
        return INT;
    }

    private Type member(ModelText.Node node) {
        Type of = judged(node.part(0));
        refuse(!of.isKind(), 7, node.at);
        boolean isCall = node.op.equals("call");
        Type seen = seenWith(of, node.at.text(), isCall);
        refuse(seen == null, 5, node.at);
        node.member = memberOf(seen.of, node.at.text());
        boolean hidden = node.member.type.hasThis();
        for (Type param : node.member.params) {
            hidden |= param.hasThis();
        }
        refuse(hidden && !node.part(0).op.equals("this"), 10, node.at);
        int arguments = node.parts.size() - 1;
        refuse(isCall && arguments != node.member.params.size(), 6, node.at);
        for (int i = 0; i < arguments; i++) {
            Type wanted = standing(node.member.params.get(i), seen);
            refuse(!fits(judged(node.part(i + 1)), wanted), 7, node.part(i + 1).first);
        }
        return standing(node.member.type, seen);
    }
}
