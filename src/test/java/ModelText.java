import java.util.ArrayList;
import java.util.List;
import java.util.Set;
import java.util.regex.Matcher;
import java.util.regex.Pattern;

/**
 * Terms 1 of the document once more, for ModelTest: a TEXT is read into a tree, with FAULTS 1 to 3. It is
 * written apart from the class and shares nothing with it; ( ) stay in the tree, as "alone" asks for them.
 */
final class ModelText {
    private static final Set<String> WORDS = Set.of("class", "is", "where", "in", "main", "int", "null", "this",
        "world", "new", "if", "else", "while", "return", "say", "as");
    private static final Pattern BLANKS = Pattern.compile("(?:[ \n]|#[^\n]*)*+");
    private static final Pattern TOKEN = Pattern.compile(
        "(?<big>[A-Z][A-Za-z0-9]*+)|(?<small>[a-z][A-Za-z0-9]*+)|(?<number>[0-9]++)|(?<sign>==|!=|[]{}()\\[,;.=<+*/%-])");

    /** The kind of a WORD or SIGN is itself; else CLASSNAME, NAME, NUMBER, END or BAD. */
    record Token(String kind, String text, int place) {
    }

    /** A FAULT; it ends the reading or judging. */
    static final class Fault extends RuntimeException {
        private static final long serialVersionUID = 1;
        final int number;
        final int place;

        Fault(int number, Token at) {
            super(null, null, false, false);
            this.number = number;
            place = at.place;
        }
    }

    /** A TYPE as it is told: its CLASSNAME (or int), and its OWNERS. */
    record Told(Token name, List<Token> owners) {
    }

    /** A STATEMENT or an E. What the judge finds out is put into the last four. */
    static final class Node {
        final String op;
        final Token at;
        final Token first;
        final List<Node> parts = new ArrayList<>();
        Told told;
        ModelTypes.Type type;
        Member member;
        int slot;

        Node(String op, Token at, Token first) {
            this.op = op;
            this.at = at;
            this.first = first;
        }

        Node with(Node part) {
            parts.add(part);
            return this;
        }

        Node part(int i) {
            return parts.get(i);
        }
    }

    /** A FIELD, a METHOD (with a block), or main. */
    static final class Member {
        Decl home;
        Told told;
        Token name;
        final List<Told> paramsTold = new ArrayList<>();
        final List<Token> paramNames = new ArrayList<>();
        Node block;
        int variables;
        ModelTypes.Type type;
        final List<ModelTypes.Type> params = new ArrayList<>();
    }

    static final class Decl {
        int number;
        Token name;
        Token is;
        Told aboveTold;
        ModelTypes.Type above;
        final List<Token> nameTokens = new ArrayList<>();
        final List<String> names = new ArrayList<>();
        final List<Token[]> ins = new ArrayList<>();
        final List<Member> members = new ArrayList<>();
    }

    final List<Decl> decls = new ArrayList<>();
    final Member main = new Member();
    private final List<Token> tokens = new ArrayList<>();
    private int next;
    private int open;
    private int variables;

    ModelText(String text) {
        cut(text);
        while (is("class")) {
            readClass();
        }
        take("main");
        variables = 0;
        main.block = block();
        main.variables = variables;
        take("END");
    }

    private void cut(String text) {
        Matcher blanks = BLANKS.matcher(text);
        Matcher token = TOKEN.matcher(text);
        int at = 0;
        while (true) {
            at = blanks.region(at, text.length()).lookingAt() ? blanks.end() : at;
            if (at == text.length()) {
                tokens.add(new Token("END", "", at));
                return;
            }
            boolean found = token.region(at, text.length()).lookingAt();
            String kind = found ? kindOf(token) : "BAD";
            tokens.add(new Token(kind, found ? token.group() : "", at));
            if (kind.equals("BAD")) {
                return;
            }
            at = token.end();
        }
    }

    private static String kindOf(Matcher token) {
        String text = token.group();
        if (token.group("sign") != null) {
            return text;
        }
        if (token.group("number") != null) {
            return text.length() > 9 ? "BAD" : "NUMBER";
        }
        if (text.length() > 10) {
            return "BAD";
        }
        if (token.group("big") != null) {
            return "CLASSNAME";
        }
        return WORDS.contains(text) ? text : "NAME";
    }

    private Token now() {
        return tokens.get(next);
    }

    private boolean is(String kind) {
        return now().kind.equals(kind);
    }

    private boolean isOne(String... kinds) {
        return List.of(kinds).contains(now().kind);
    }

    private Token take(String... kinds) {
        Token token = now();
        if (token.kind.equals("BAD")) {
            throw new Fault(1, token);
        }
        if (!isOne(kinds)) {
            throw new Fault(2, token);
        }
        next++;
        return token;
    }

    /** What was taken as the next of so many is one too many. */
    private static void atMost(int many, int most, Token at) {
        if (many > most) {
            throw new Fault(3, at);
        }
    }

    private Token takeOpen(String sign) {
        Token token = take(sign);
        open++;
        atMost(open, 12, token);
        return token;
    }

    private void takeClose(String sign) {
        take(sign);
        open--;
    }

    private boolean goesOn() {
        if (is(",")) {
            next++;
            return true;
        }
        return false;
    }

    private void readClass() {
        Decl decl = new Decl();
        decl.number = decls.size();
        decls.add(decl);
        atMost(decls.size(), 16, take("class"));
        decl.name = take("CLASSNAME");
        take("[");
        do {
            Token name = take("NAME");
            decl.nameTokens.add(name);
            decl.names.add(name.text);
            atMost(decl.names.size(), 5, name);
        } while (goesOn());
        take("]");
        if (is("is")) {
            decl.is = take("is");
            decl.aboveTold = kind();
        }
        if (is("where")) {
            readIns(decl);
        }
        takeOpen("{");
        while (isOne("int", "CLASSNAME")) {
            atMost(decl.members.size() + 1, 24, now());
            readMember(decl);
        }
        takeClose("}");
    }

    private void readIns(Decl decl) {
        take("where");
        do {
            Token inner = take("NAME");
            atMost(decl.ins.size() + 1, 8, inner);
            take("in");
            decl.ins.add(new Token[] {inner, take("NAME")});
        } while (goesOn());
    }

    private void readMember(Decl decl) {
        Member member = new Member();
        decl.members.add(member);
        member.home = decl;
        member.told = type();
        member.name = take("NAME");
        if (is(";")) {
            take(";");
            return;
        }
        readParams(member);
        variables = member.paramNames.size();
        member.block = block();
        member.variables = variables;
    }

    private void readParams(Member member) {
        takeOpen("(");
        if (!is(")")) {
            do {
                if (isOne("int", "CLASSNAME")) {
                    atMost(member.paramsTold.size() + 1, 6, now());
                }
                member.paramsTold.add(type());
                member.paramNames.add(take("NAME"));
            } while (goesOn());
        }
        takeClose(")");
    }

    private Told type() {
        return is("int") ? new Told(take("int"), List.of()) : kind();
    }

    private Told kind() {
        Told told = new Told(take("CLASSNAME"), new ArrayList<>());
        take("[");
        do {
            Token owner = take("this", "world", "NAME");
            told.owners.add(owner);
            atMost(told.owners.size(), 5, owner);
        } while (goesOn());
        take("]");
        return told;
    }

    private Node block() {
        Node block = new Node("block", now(), now());
        takeOpen("{");
        while (!is("}")) {
            block.with(statement());
        }
        takeClose("}");
        return block;
    }

    private Node statement() {
        Token first = now();
        switch (first.kind) {
            case "{":
                return block();
            case "if":
            case "while":
                return guarded(first);
            case "return":
            case "say":
                take(first.kind);
                return ended(new Node(first.kind, first, first).with(value()));
            case "int":
            case "CLASSNAME":
                return telling(first);
            default:
                return setOrCall(first);
        }
    }

    private Node ended(Node statement) {
        take(";");
        return statement;
    }

    private Node guarded(Token first) {
        Node made = new Node(first.kind, take(first.kind), first);
        takeOpen("(");
        made.with(value());
        takeClose(")");
        made.with(block());
        if (first.kind.equals("if") && is("else")) {
            take("else");
            made.with(block());
        }
        return made;
    }

    private Node telling(Token first) {
        Told told = type();
        Token name = take("NAME");
        variables++;
        atMost(variables, 16, name);
        Node made = new Node("tell", take("="), first);
        made.told = told;
        made.with(new Node("name", name, name));
        return ended(made.with(value()));
    }

    private Node setOrCall(Token first) {
        Node left = value();
        if (left.op.equals("call")) {
            return ended(new Node("do", first, first).with(left));
        }
        if (!left.op.equals("name") && !left.op.equals("field")) {
            take("nothing may stand here");
        }
        Node made = new Node("set", take("="), first).with(left);
        return ended(made.with(value()));
    }

    private Node value() {
        Node left = sum();
        if (isOne("==", "!=", "<")) {
            Token sign = take(now().kind);
            left = new Node(sign.kind, sign, left.first).with(left).with(sum());
        }
        return left;
    }

    private Node sum() {
        Node left = product();
        while (isOne("+", "-")) {
            Token sign = take(now().kind);
            left = new Node(sign.kind, sign, left.first).with(left).with(product());
        }
        return left;
    }

    private Node product() {
        Node left = unit();
        while (isOne("*", "/", "%")) {
            Token sign = take(now().kind);
            left = new Node(sign.kind, sign, left.first).with(left).with(unit());
        }
        return left;
    }

    private Node unit() {
        if (!is("-")) {
            return post();
        }
        Token sign = takeOpen("-");
        Node made = new Node("negate", sign, sign).with(unit());
        open--;
        return made;
    }

    private Node post() {
        Node made = atom();
        while (isOne(".", "as")) {
            if (is("as")) {
                Node cast = new Node("as", take("as"), made.first).with(made);
                cast.told = kind();
                made = cast;
            } else {
                take(".");
                Token name = take("NAME");
                Node of = made;
                made = new Node(is("(") ? "call" : "field", name, of.first).with(of);
                if (is("(")) {
                    arguments(made);
                }
            }
        }
        return made;
    }

    private void arguments(Node call) {
        takeOpen("(");
        if (!is(")")) {
            do {
                if (isOne("NUMBER", "null", "this", "NAME", "new", "(", "-")) {
                    atMost(call.parts.size(), 6, now());
                }
                call.with(value());
            } while (goesOn());
        }
        takeClose(")");
    }

    private Node atom() {
        Token first = take("NUMBER", "null", "this", "NAME", "new", "(");
        switch (first.kind) {
            case "NAME":
                return new Node("name", first, first);
            case "new":
                Node made = new Node("new", first, first);
                made.told = kind();
                return made;
            case "(":
                open++;
                atMost(open, 12, first);
                Node inside = new Node("paren", first, first).with(value());
                takeClose(")");
                return inside;
            default:
                return new Node(first.kind, first, first);
        }
    }
}
