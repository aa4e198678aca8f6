import java.util.ArrayList;
import java.util.List;
import java.util.Random;

/**
 * Makes TEXTS at random, whose TYPES mostly FIT and whose OWNERS are mostly NESTED, so that many are let
 * through and run far.
 */
final class TextMaker {
    private static final String INT = "int";
    private static final String WORLD = "world";

    /** A MEMBER: without params (null) a FIELD. */
    private record Member(String type, String name, List<String> params) {
    }

    private static final class Decl {
        String name;
        List<String> names;
        Decl above;
        String aboveKind;
        String where = "";
        final List<Member> members = new ArrayList<>();
    }

    /** What can be told without a call, and its TYPE. */
    private record Reached(String told, String type) {
    }

    private final Random random;
    private final List<Decl> decls = new ArrayList<>();
    private Decl within;
    private final List<Reached> variables = new ArrayList<>();
    private String returned;
    private int spelled;
    private int left;
    /** OWNERS are any ones: what is trusted then LEAKS. */
    private boolean wild;

    TextMaker(Random random) {
        this.random = random;
    }

    /** Whether the latest TEXT has OWNERS that are seldom NESTED. */
    boolean isWild() {
        return wild;
    }

    private boolean once(int in) {
        return random.nextInt(in) == 0;
    }

    private <T> T any(List<T> row) {
        return row.get(random.nextInt(row.size()));
    }

    String text() {
        decls.clear();
        wild = once(3);
        makeDecls(once(9) ? 0 : 1 + random.nextInt(4));
        StringBuilder made = new StringBuilder();
        for (Decl decl : decls) {
            within = decl;
            made.append(classText(decl));
        }
        within = null;
        return made.append(mainText()).toString();
    }

    private void makeDecls(int many) {
        for (int c = 0; c < many; c++) {
            Decl decl = new Decl();
            decl.name = "" + (char) ('A' + c);
            decl.names = List.of("o", "p", "q", "r", "s").subList(0, wild ? 2 : 1 + random.nextInt(once(6) ? 5 : 3));
            decls.add(decl);
        }
        // A CLASS above stands behind in one TEXT, ahead in another.
        boolean behind = once(2);
        for (int c = 0; c < many; c++) {
            int a = behind ? many - 1 - c : c;
            within = decls.get(a);
            makeHead(within, behind ? decls.subList(a + 1, many) : decls.subList(0, a));
            makeMembers(within);
        }
    }

    /** main makes some OBJECTS first, and calls of them, so that there is something to look at. */
    private String mainText() {
        beginBlock(INT, 24);
        StringBuilder made = new StringBuilder("main { ");
        for (int k = decls.isEmpty() ? 0 : 1 + random.nextInt(4); k > 0; k--) {
            String kind = kind();
            made.append(kind).append(newVariable(kind)).append(" = new ").append(kind).append("; ");
            made.append(once(2) ? "" : calling());
        }
        return made.append(statements(0)).toString();
    }

    private void beginBlock(String type, int statements) {
        variables.clear();
        returned = type;
        spelled = 0;
        left = statements;
    }

    private void makeHead(Decl decl, List<Decl> aboves) {
        if (!aboves.isEmpty() && once(2)) {
            decl.above = any(aboves);
            List<String> owners = new ArrayList<>(List.of(once(40) ? WORLD : "o"));
            while (owners.size() < decl.above.names.size()) {
                owners.add(once(5) ? WORLD : any(decl.names));
            }
            decl.aboveKind = kindOf(decl.above, owners);
        }
        for (int k = once(4) ? 1 + random.nextInt(2) : 0; k > 0; k--) {
            decl.where += (decl.where.isEmpty() ? " where " : " , ") + any(decl.names) + " in " + any(decl.names);
        }
    }

    private void makeMembers(Decl decl) {
        for (int k = random.nextInt(5) + (wild ? 2 : 0); k > 0; k--) {
            decl.members.add(new Member(type(), newName("f", decl), null));
        }
        for (int k = random.nextInt(4); k > 0; k--) {
            List<String> params = new ArrayList<>();
            boolean open = !once(4);
            for (int i = random.nextInt(3); i > 0; i--) {
                params.add(seenType(open));
            }
            decl.members.add(new Member(seenType(open), newName("m", decl), params));
        }
        if (decl.above != null) {
            overs(decl);
        }
    }

    private String newName(String letter, Decl decl) {
        return letter + (once(90) ? random.nextInt(3) : decls.indexOf(decl) * 10 + decl.members.size());
    }

    private void overs(Decl decl) {
        for (Decl above = decl.above; above != null; above = above.above) {
            String seen = seenAs(ownKind(decl), above);
            for (Member member : above.members) {
                boolean isThere = decl.members.stream().anyMatch(own -> own.name.equals(member.name));
                if (member.params != null && !isThere && once(2)) {
                    List<String> params = new ArrayList<>();
                    member.params.forEach(param -> params.add(standing(param, seen)));
                    decl.members.add(random.nextInt(decl.members.size() + 1),
                        new Member(once(12) ? INT : standing(member.type, seen), member.name, params));
                }
            }
        }
    }

    private String classText(Decl decl) {
        StringBuilder made = new StringBuilder("class " + decl.name + " [ " + String.join(" , ", decl.names) + " ] ");
        made.append(decl.above == null ? "" : "is " + decl.aboveKind).append(decl.where).append(" { ");
        for (Member member : decl.members) {
            made.append(member.type).append(' ').append(member.name);
            made.append(member.params == null ? " ; " : methodText(member));
        }
        return made.append("} ").toString();
    }

    private String methodText(Member member) {
        beginBlock(member.type, 9);
        List<String> params = new ArrayList<>();
        for (String type : member.params) {
            params.add(type + " " + newVariable(type));
        }
        return " ( " + String.join(" , ", params) + " ) { " + filled() + statements(0);
    }

    /** Some FIELDS of this, and theirs, are filled ahead of all else, else most of it would end with NULL. */
    private String filled() {
        StringBuilder made = new StringBuilder();
        for (Reached field : objectFields(new Reached("this ", ownKind(within)))) {
            if (once(wild ? 9 : 3)) {
                continue;
            }
            made.append(field.told).append("= new ").append(field.type).append("; ");
            for (Reached further : objectFields(field)) {
                made.append(once(wild ? 5 : 2) ? "" : further.told + "= " + value(further.type, 0) + "; ");
            }
        }
        return made.toString();
    }

    private List<Reached> objectFields(Reached of) {
        List<Reached> fields = new ArrayList<>();
        addFields(of, fields);
        fields.removeIf(field -> field.type.equals(INT));
        return fields;
    }

    private String newVariable(String type) {
        String name = "v" + (once(200) ? 0 : spelled);
        spelled++;
        variables.add(new Reached(name, type));
        return name;
    }

    private static String kindOf(Decl decl, List<String> owners) {
        return decl.name + " [ " + String.join(" , ", owners) + " ] ";
    }

    private static String ownKind(Decl decl) {
        return kindOf(decl, decl.names);
    }

    private static List<String> ownersIn(String kind) {
        List<String> owners = new ArrayList<>();
        for (String word : kind.substring(kind.indexOf('[') + 1, kind.indexOf(']')).split(" ")) {
            if (!word.isEmpty() && !word.equals(",")) {
                owners.add(word);
            }
        }
        return owners;
    }

    private Decl declOf(String kind) {
        for (Decl decl : decls) {
            if (kind.startsWith(decl.name + " [")) {
                return decl;
            }
        }
        return null;
    }

    /** The NAMES in a TYPE stand for the OWNERS of a KIND of this CLASS. */
    private String standing(String type, String seen) {
        if (type.equals(INT) || seen == null) {
            return type;
        }
        List<String> names = declOf(seen).names;
        List<String> owners = new ArrayList<>();
        for (String owner : ownersIn(type)) {
            int i = names.indexOf(owner);
            owners.add(i < 0 || i >= ownersIn(seen).size() ? owner : ownersIn(seen).get(i));
        }
        return kindOf(declOf(type), owners);
    }

    private String up(String kind) {
        Decl decl = declOf(kind);
        return decl.above == null ? null : standing(decl.aboveKind, kind);
    }

    private String seenAs(String kind, Decl as) {
        String seen = kind;
        while (seen != null && declOf(seen) != as) {
            seen = up(seen);
        }
        return seen;
    }

    private String type() {
        return decls.isEmpty() || once(3) ? INT : kind();
    }

    /** What has this can be called by this alone: mostly it has not. */
    private String seenType(boolean open) {
        return open ? type().replace("this", "o") : type();
    }

    private String kind() {
        Decl decl = any(decls);
        List<String> owners = new ArrayList<>(List.of(within == null ? WORLD : firstOwner()));
        while (owners.size() < decl.names.size()) {
            owners.add(within == null ? WORLD : furtherOwner(owners.get(0)));
        }
        return kindOf(decl, owners);
    }

    private String anyOwner() {
        return once(4) ? WORLD : once(3) ? "this" : any(within.names);
    }

    private String firstOwner() {
        return wild || once(3) ? anyOwner() : once(2) ? "o" : "this";
    }

    /** Mostly one in which the first OWNER is known to be. */
    private String furtherOwner(String first) {
        if (wild) {
            return any(List.of("this", "this", "p", WORLD));
        }
        if (once(30) || first.equals("this")) {
            return anyOwner();
        }
        if (first.equals("o")) {
            return once(4) ? WORLD : any(within.names);
        }
        return once(2) ? first : WORLD;
    }

    private String block(int depth) {
        return "{ " + statements(depth);
    }

    /** STATEMENTS and the } behind them. */
    private String statements(int depth) {
        int before = variables.size();
        StringBuilder made = new StringBuilder();
        for (int k = random.nextInt(depth > 0 ? 4 : within == null ? 16 : 9); k >= 0 && left > 0; k--) {
            left--;
            made.append(statement(depth));
        }
        variables.subList(before, variables.size()).clear();
        return made.append("} ").toString();
    }

    private String statement(int depth) {
        // Further in there are no more BLOCKS: the last four.
        switch (random.nextInt(depth < 2 ? 16 : 12)) {
            case 0:
            case 1:
            case 2:
            case 3:
                return spelled < 16 ? telling() : setting();
            case 4:
            case 5:
            case 6:
                return setting();
            case 7:
            case 8:
            case 9:
                return calling();
            case 10:
                return "say " + value(INT, 2) + "; ";
            case 11:
                return once(4) ? "return " + value(returned, 2) + "; " : setting();
            case 12:
                return block(depth + 1);
            case 13:
                return once(3) ? "while ( " + value(INT, 2) + ") " + block(depth + 1) : counting(depth);
            default:
                String made = "if ( " + value(INT, 2) + ") " + block(depth + 1);
                return once(2) ? made : made + "else " + block(depth + 1);
        }
    }

    private String counting(int depth) {
        if (spelled >= 16) {
            return setting();
        }
        String name = newVariable(INT);
        return "int " + name + " = 0 ; while ( " + name + " < " + random.nextInt(5) + " ) { " + name + " = " + name + " + 1 ; "
            + statements(depth + 1);
    }

    private String telling() {
        String type = type();
        String told = value(type, 3);
        return type + " " + newVariable(type) + " = " + told + "; ";
    }

    private String setting() {
        List<Reached> found = reached();
        found.removeIf(reached -> reached.told.equals("this "));
        if (found.isEmpty()) {
            return "say " + value(INT, 1) + "; ";
        }
        Reached set = any(found);
        return set.told + " = " + value(set.type, 3) + "; ";
    }

    private String calling() {
        List<String> calls = calls(null);
        // In METHODS fewer, as most CALLS that call again never end.
        boolean fewer = within != null && !once(4);
        return fewer || calls.isEmpty() ? setting() : any(calls) + "; ";
    }

    /** this, the VARIABLES, and FIELDS of all these, up to two in a row. */
    private List<Reached> reached() {
        List<Reached> all = new ArrayList<>(variables);
        if (within != null) {
            all.add(new Reached("this ", ownKind(within)));
        }
        int from = 0;
        for (int hops = once(5) ? 0 : 1; hops < 2; hops++) {
            int to = all.size();
            for (int i = from; i < to && all.size() < 60; i++) {
                addFields(all.get(i), all);
            }
            from = to;
        }
        return all;
    }

    private void addFields(Reached of, List<Reached> all) {
        for (String seen = of.type.equals(INT) ? null : of.type; seen != null; seen = up(seen)) {
            for (Member member : declOf(seen).members) {
                if (member.params == null && isSeen(of, member)) {
                    all.add(new Reached(of.told + " . " + member.name + " ", standing(member.type, seen)));
                }
            }
        }
    }

    private boolean isSeen(Reached of, Member member) {
        boolean hasThis = member.type.contains("this") || (member.params != null && member.params.toString().contains("this"));
        return !hasThis || of.told.equals("this ") || once(80);
    }

    /** All calls of METHODS of what is reached, of that TYPE (null: of each), but not too many. */
    private List<String> calls(String wanted) {
        List<String> made = new ArrayList<>();
        List<Reached> all = reached();
        all.removeIf(reached -> reached.told.contains(".") && !once(6));
        for (int k = 0; k < 12 && !all.isEmpty() && made.size() < 3; k++) {
            Reached of = any(all);
            for (String seen = of.type.equals(INT) ? null : of.type; seen != null; seen = up(seen)) {
                for (Member member : declOf(seen).members) {
                    boolean fits = member.params != null && (wanted == null || standing(member.type, seen).equals(wanted));
                    if (fits && isSeen(of, member) && made.size() < 3) {
                        made.add(of.told + " . " + member.name + " ( " + arguments(member, seen) + ") ");
                    }
                }
            }
        }
        return made;
    }

    private String arguments(Member member, String seen) {
        List<String> made = new ArrayList<>();
        for (String param : member.params) {
            made.add(value(standing(param, seen), 0));
        }
        if (once(80)) {
            made.add("1 ");
        }
        return String.join(", ", made);
    }

    private String value(String type, int depth) {
        if (once(500)) {
            return "null ";
        }
        if (depth > 0 && once(within == null ? 4 : 12)) {
            List<String> calls = calls(type);
            if (!calls.isEmpty()) {
                return any(calls);
            }
        }
        List<Reached> found = reached();
        found.removeIf(reached -> !reached.type.equals(type) && !(once(2) && fits(reached.type, type)));
        if (!found.isEmpty() && once(2)) {
            return any(found).told;
        }
        return type.equals(INT) ? number(depth) : object(type, depth);
    }

    private boolean fits(String type, String wanted) {
        return !type.equals(INT) && !wanted.equals(INT) && wanted.equals(seenAs(type, declOf(wanted)));
    }

    private String number(int depth) {
        if (depth <= 0) {
            return once(9) ? "" + random.nextInt(1000000000) + " " : random.nextInt(4) + " ";
        }
        switch (random.nextInt(6)) {
            case 0:
                return "- " + value(INT, depth - 1);
            case 1:
                String type = type();
                return "( " + value(type, depth - 1) + any(List.of("== ", "!= ")) + value(type, depth - 1) + ") ";
            case 2:
                return (once(30) ? "" : "( ") + value(INT, 0) + "< " + value(INT, 0) + (once(30) ? "" : ") ");
            case 3:
                return random.nextInt(5) + " ";
            default:
                String made = value(INT, depth - 1) + any(List.of("+ ", "- ", "* ")) + value(INT, depth - 1);
                made = once(3) ? value(INT, depth - 1) + any(List.of("/ ", "% ")) + (once(9) ? value(INT, 0) : "7 ") : made;
                return once(2) ? "( " + made + ") " : made;
        }
    }

    private String object(String type, int depth) {
        if (once(12)) {
            return "null ";
        }
        if (depth > 0 && once(4)) {
            List<Reached> found = reached();
            found.removeIf(reached -> reached.type.equals(INT));
            return (found.isEmpty() ? "null " : any(found).told) + " as " + type;
        }
        List<String> kinds = new ArrayList<>(List.of(type));
        for (Decl decl : decls) {
            String kind = kindOf(decl, ownersLike(type, decl));
            if (fits(kind, type)) {
                kinds.add(kind);
            }
        }
        return "new " + any(kinds) + " ";
    }

    /** OWNERS for a CLASS that may be below the other one: its first one, then those of it or any. */
    private List<String> ownersLike(String type, Decl decl) {
        List<String> owners = new ArrayList<>(List.of(ownersIn(type).get(0)));
        while (owners.size() < decl.names.size()) {
            owners.add(any(ownersIn(type)));
        }
        return owners;
    }
}
