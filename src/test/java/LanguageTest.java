import java.io.IOException;
import java.lang.reflect.Field;
import java.lang.reflect.Member;
import java.lang.reflect.Method;
import java.lang.reflect.Modifier;
import java.nio.file.Files;
import java.nio.file.Path;
import java.util.ArrayList;
import java.util.Collections;
import java.util.List;
import java.util.regex.Matcher;
import java.util.regex.Pattern;

/** The face (promise 1) and what of LANGUAGE.md a look at the source can tell. The first argument is the root. */
public final class LanguageTest {
    private static final String FACE = "NONE OwnerHeap above call fault feed field isIn isInside leak leaks load object "
        + "owner past run said start state type variable way";

    private static List<String> visible() {
        Class<?> face = OwnerHeap.class;
        List<Member> members = new ArrayList<>();
        members.addAll(List.of(face.getDeclaredFields()));
        members.addAll(List.of(face.getDeclaredConstructors()));
        members.addAll(List.of(face.getDeclaredMethods()));
        List<String> names = new ArrayList<>();
        for (Member member : members) {
            if (!Modifier.isPrivate(member.getModifiers()) && !member.isSynthetic()) {
                names.add(member.getName());
            }
        }
        Collections.sort(names);
        return names;
    }

    private static String withoutNotes(String source) {
        return source.replaceAll("(?s)/\\*.*?\\*/", "").replaceAll("//[^\n]*", "").replaceAll("\"[^\"\n]*\"", "\"\"");
    }

    private static void refuse(Check check, String source, String pattern) {
        Matcher matcher = Pattern.compile(pattern).matcher(source);
        boolean found = matcher.find();
        check.due("a look for " + pattern + (found ? ": " + matcher.group() : ""), found, false);
    }

    /** Rules 1, 2, 5 and 11, of one class: static ones inside, constants, few fields, few parameters. */
    private static void shape(Check check, Class<?> of) {
        int fields = 0;
        for (Field field : of.getDeclaredFields()) {
            boolean isStatic = Modifier.isStatic(field.getModifiers());
            check.due("static " + field + " is final", !isStatic || Modifier.isFinal(field.getModifiers()), true);
            fields += isStatic ? 0 : 1;
        }
        check.due("fields of " + of + ": " + fields, fields <= 20, true);
        for (Method method : of.getDeclaredMethods()) {
            check.due("parameters of " + method, method.getParameterCount() <= 7, true);
        }
        for (Class<?> inside : of.getDeclaredClasses()) {
            check.due(inside + " is static", Modifier.isStatic(inside.getModifiers()), true);
            check.due(inside + " is not for others", Modifier.isPublic(inside.getModifiers()) || Modifier.isProtected(inside.getModifiers()), false);
            shape(check, inside);
        }
    }

    /** Rule 11: a method ends where its } stands under its beginning. */
    private static void lengths(Check check, List<String> lines) {
        Pattern head = Pattern.compile("( +)[\\w\\[\\] ]+\\([\\w\\[\\], ]*\\) \\{");
        for (int i = 0; i < lines.size(); i++) {
            Matcher matcher = head.matcher(lines.get(i));
            if (matcher.matches() && matcher.group(1).length() <= 8 && !lines.get(i).contains(" if ")) {
                int end = lines.subList(i, lines.size()).indexOf(matcher.group(1) + "}");
                check.due("lines of" + lines.get(i), end > 0 && end <= 60, true);
            }
        }
    }

    public static void main(String[] args) throws IOException {
        Check check = new Check();
        String names = String.join(" ", visible());
        check.due("the face is " + names + ", which", names.equals(FACE), true);
        Path root = Path.of(args.length > 0 ? args[0] : ".");
        String source = withoutNotes(Files.readString(root.resolve("src/main/java/OwnerHeap.java")));
        refuse(check, source, "\\b(throw|throws|try|catch|finally|synchronized|assert|instanceof|package|var)\\b");
        refuse(check, source, "->|::");
        refuse(check, source, "import (?!java\\.util\\.Arrays;)");
        refuse(check, source, "\\b(Object|System\\.(?!arraycopy)|Thread|Random|Exact)\\b");
        refuse(check, source, "static (?!final)[\\w\\[\\]]+ \\w+( =|;)");
        refuse(check, source, "while \\(true\\)|for \\(;;");
        refuse(check, source, "private [\\w\\[\\] ]+ (" + FACE.replace("NONE OwnerHeap ", "").replace(' ', '|') + ")\\(");
        check.due("classes inside", OwnerHeap.class.getDeclaredClasses().length <= 12, true);
        shape(check, OwnerHeap.class);
        lengths(check, Files.readAllLines(root.resolve("src/main/java/OwnerHeap.java")));
        check.end();
    }
}
