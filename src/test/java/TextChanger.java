import java.util.ArrayList;
import java.util.List;
import java.util.Random;
import java.util.regex.Matcher;
import java.util.regex.Pattern;

/** Changes a few TOKENS of a TEXT at random, or what is between them. */
final class TextChanger {
    private static final Pattern TOKEN = Pattern.compile("[A-Za-z][A-Za-z0-9]*|[0-9]+|==|!=|[^ \n]");
    private static final List<String> TOKENS = List.of(("class is where in main int null this world new if else while return "
        + "say as A B C D o p q f0 f1 m0 v0 v1 0 1 7 { } ( ) [ ] , ; . = == != < + - * / %").split(" "));
    private static final List<String> BAD = List.of("!", "?", "\t", "" + (char) 200, "aaaaaaaaaaa", "1234567890", "Aaaaaaaaa1x");
    private static final List<String> BLANKS = List.of("", "", "", "", " ", " ", "  ", "\n", "#;\n", "#" + (char) 255 + " #\n ");

    private final Random random;

    TextChanger(Random random) {
        this.random = random;
    }

    /** True once in so many times. */
    boolean isOnce(int in) {
        return random.nextInt(in) == 0;
    }

    private <T> T any(List<T> row) {
        return row.get(random.nextInt(row.size()));
    }

    private static List<String> tokensOf(String text) {
        List<String> tokens = new ArrayList<>();
        Matcher matcher = TOKEN.matcher(text);
        while (matcher.find()) {
            tokens.add(matcher.group());
        }
        return tokens;
    }

    String changed(String text) {
        List<String> tokens = tokensOf(text);
        for (int k = random.nextInt(3); k >= 0 && !tokens.isEmpty(); k--) {
            changeAt(random.nextInt(tokens.size()), tokens);
        }
        return String.join(" ", tokens);
    }

    private void changeAt(int at, List<String> tokens) {
        switch (random.nextInt(11)) {
            case 0:
                tokens.remove(at);
                break;
            case 1:
                tokens.add(at, any(TOKENS));
                break;
            case 2:
                tokens.set(at, any(TOKENS));
                break;
            case 3:
                tokens.add(at, any(BAD));
                break;
            case 4:
                tokens.set(at, tokens.set(random.nextInt(tokens.size()), tokens.get(at)));
                break;
            case 5:
                int end = Math.min(tokens.size(), at + 1 + random.nextInt(12));
                tokens.addAll(at, new ArrayList<>(tokens.subList(at, end)));
                break;
            case 6:
                String repeated = any(List.of("(", "-", "{", ",", ".", ")", "}"));
                for (int i = random.nextInt(14); i >= 0; i--) {
                    tokens.add(at, repeated);
                }
                break;
            default:
                setOther(tokens, at);
                break;
        }
    }

    /** Where a word is, another word of the TEXT that begins alike, so that it mostly can stand there. */
    private void setOther(List<String> tokens, int at) {
        String token = tokens.get(at);
        for (int k = 0; k < 60 && isWord(token); k++) {
            String other = any(tokens);
            boolean alike = isWord(other) && Character.isUpperCase(other.charAt(0)) == Character.isUpperCase(token.charAt(0));
            if (alike && !other.equals(token)) {
                tokens.set(at, other);
                return;
            }
        }
    }

    /** Other blanks and notes between the TOKENS, or none where none is needed. */
    String spaced(String text) {
        // Some TEXTS have none but those that are needed.
        List<String> blanks = isOnce(3) ? List.of("") : BLANKS;
        StringBuilder made = new StringBuilder(any(blanks));
        String before = "";
        for (String token : tokensOf(text)) {
            String blank = any(blanks);
            made.append(blank.isEmpty() && wouldJoin(before, token) ? " " : blank).append(token);
            before = token;
        }
        return made.append(any(blanks)).toString();
    }

    private static boolean wouldJoin(String before, String token) {
        boolean words = isWord(before) && isWord(token) && !(isNumber(before) && !isNumber(token));
        return words || (before.endsWith("=") || before.equals("!")) && token.startsWith("=");
    }

    private static boolean isWord(String token) {
        return !token.isEmpty() && (Character.isLetter(token.charAt(0)) || isNumber(token));
    }

    private static boolean isNumber(String token) {
        return !token.isEmpty() && token.charAt(0) >= '0' && token.charAt(0) <= '9';
    }
}
