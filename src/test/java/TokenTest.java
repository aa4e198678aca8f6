/** Terms 1, TOKENS: each byte that may and may not be there, and the lengths at which they are too long. */
public final class TokenTest {
    private static final Check CHECK = new Check();
    private static final String SIGNS = "{}()[],;.=<+-*/%";
    private static final String[] WORDS = {"class", "is", "where", "in", "main", "int", "null", "this", "world", "new",
        "if", "else", "while", "return", "say", "as"};

    private static boolean isSmall(int b) {
        return b >= 'a' && b <= 'z';
    }

    private static boolean isCapital(int b) {
        return b >= 'A' && b <= 'Z';
    }

    private static boolean isDigit(int b) {
        return b >= '0' && b <= '9';
    }

    private static boolean isBlank(int b) {
        return b == 10 || b == 32;
    }

    private static boolean isSign(int b) {
        return SIGNS.indexOf(b) >= 0;
    }

    private static void judged(int number, int place, String text) {
        CHECK.judgedAt(number, place, text, false);
    }

    /** "1 no TOKEN begins so": of all bytes, those that begin one, blanks (10, 32) and # . */
    private static void eachByteFirst() {
        for (int b = 0; b < 256; b++) {
            String text = (char) b + "main{}";
            if (isBlank(b)) {
                judged(0, -1, text);
            } else if (b == '#') {
                judged(2, text.length(), text);
            } else if (isSmall(b) || isCapital(b) || isDigit(b) || isSign(b)) {
                judged(2, 0, text);
            } else {
                judged(1, 0, text);
            }
        }
    }

    /** "a small one, then letters, digits": of all bytes, those that a NAME goes on with. */
    private static void eachByteInAName() {
        for (int b = 0; b < 256; b++) {
            String text = "main{int a" + (char) b + "b=1;}";
            if (isSmall(b) || isCapital(b) || isDigit(b)) {
                judged(0, -1, text);
            } else if (isBlank(b)) {
                judged(2, 11, text);
            } else if (b == '#') {
                judged(2, text.length(), text);
            } else if (isSign(b)) {
                judged(2, b == '=' ? 12 : 10, text);
            } else {
                judged(1, 10, text);
            }
        }
    }

    /** "a capital letter, then letters, digits". */
    private static void eachByteInAClassName() {
        for (int b = 0; b < 256; b++) {
            String text = "class A" + (char) b + "b[o]{}main{}";
            if (isSmall(b) || isCapital(b) || isDigit(b)) {
                judged(0, -1, text);
            } else if (isBlank(b)) {
                judged(2, 8, text);
            } else if (b == '#') {
                judged(2, text.length(), text);
            } else if (b == '[') {
                judged(2, 9, text);
            } else if (isSign(b)) {
                judged(2, 7, text);
            } else {
                judged(1, 7, text);
            }
        }
    }

    /** NUMBERS are digits alone; what is no digit is a TOKEN of its own. */
    private static void eachByteInANumber() {
        for (int b = 0; b < 256; b++) {
            String text = "main{say 1" + (char) b + "2;}";
            if (isDigit(b) || "+-*/%<".indexOf(b) >= 0) {
                judged(0, -1, text);
            } else if (isBlank(b) || b == '.') {
                judged(2, 11, text);
            } else if (b == '#') {
                judged(2, text.length(), text);
            } else if (b == ';') {
                judged(2, 12, text);
            } else if (isSmall(b) || isCapital(b) || isSign(b)) {
                judged(2, 10, text);
            } else {
                judged(1, 10, text);
            }
        }
    }

    /** "notes (# to the line's end)": of all bytes only 10 ends one; so does the text's end. */
    private static void eachByteInANote() {
        for (int b = 0; b < 256; b++) {
            String text = "#" + (char) b + "$\nmain{}";
            judged(b == 10 ? 1 : 0, b == 10 ? 2 : -1, text);
        }
        judged(0, -1, "main{}#");
        judged(0, -1, "main{}#$");
        judged(0, -1, "#\n#\n\nmain#{\n{#}\n}#\n");
        judged(2, 2, "#\nmains{}");
        judged(2, 1, "#");
        judged(2, 2, "#\n");
    }

    /** "CLASS NAMES .. and NAMES .., each of 10 signs at most, NUMBERS (1 to 9 digits)"; "1 .. it is too long". */
    private static void lengths() {
        for (int k = 1; k <= 30; k++) {
            String small = "abcdefghijklmnopqrstuvwxyzabcdefghi".substring(0, k);
            String mixed = "aB9Z0zA1y2C3x4D5w6E7v8F9u0G1tH2sI3r".substring(0, k);
            String capital = mixed.substring(0, 1).toUpperCase() + mixed.substring(1);
            String digits = "123456789012345678901234567890".substring(0, k);
            judged(k > 10 ? 1 : 0, k > 10 ? 9 : -1, "main{int " + small + "=1;}");
            judged(k > 10 ? 1 : 0, k > 10 ? 9 : -1, "main{int " + mixed + "=1;}");
            judged(k > 10 ? 1 : 0, k > 10 ? 6 : -1, "class " + capital + "[o]{}main{}");
            judged(k > 10 ? 1 : 0, k > 10 ? 8 : -1, "class C[" + mixed + "]{}main{}");
            judged(k > 9 ? 1 : 0, k > 9 ? 9 : -1, "main{say " + digits + ";}");
            judged(k > 9 ? 1 : 0, k > 9 ? 9 : -1, "main{say " + "0".repeat(k) + ";}");
        }
        judged(1, 9, "main{int " + "a".repeat(2980) + "=1;}");
        judged(1, 9, "main{say " + "9".repeat(2980) + ";}");
        judged(1, 0, "C".repeat(3000));
        judged(1, 0, "m".repeat(11));
        judged(2, 0, "m".repeat(10));
        judged(1, 0, "1".repeat(10));
        judged(2, 0, "1".repeat(9));
    }

    /** Of a TOKEN that is too long and can't stand there the least FAULT: 1. */
    private static void leastOfOne() {
        judged(1, 6, "class abcdefghijk[o]{}main{}");
        judged(1, 9, "main{int Abcdefghijk=1;}");
        judged(1, 5, "main 1234567890{}");
        judged(1, 6, "main{}abcdefghijk");
        judged(1, 6, "main{}1234567890");
        judged(2, 6, "main{}abcdefghij");
        judged(2, 6, "main{}123456789");
    }

    private static void saidAre(String text, int... due) {
        OwnerHeap x = CHECK.started(text, 100, 10);
        CHECK.due("run of " + text, x.run(2000), 2);
        for (int k = 0; k < due.length; k++) {
            CHECK.due("said(" + k + ") of " + text, x.said(k), due[k]);
        }
        CHECK.due("state(9) of " + text, x.state(9), due.length);
    }

    /** The least and the greatest NUMBER, and zeros ahead. */
    private static void values() {
        saidAre("main { say 0; say 9; say 10; say 999999999; say 000000000; say 000000010; say 123456789; }",
            0, 9, 10, 999999999, 0, 10, 123456789);
    }

    /** "WORDS that are no NAMES": each; with a letter more it is one. */
    private static void words() {
        for (String word : WORDS) {
            judged(2, 9, "main{int " + word + "=1;}");
            judged(2, 8, "class A[" + word + "]{}main{}");
            judged(2, 15, "class A[o]{int " + word + ";}main{}");
            judged(0, -1, "main{int " + word + "s=1;}");
            judged(0, -1, "main{int " + word + "0=1;}");
            judged(0, -1, "main{int x" + word + "=1;}");
            String capital = word.substring(0, 1).toUpperCase() + word.substring(1);
            judged(0, -1, "class " + capital + "[o]{}main{}");
            judged(2, 9, "main{int " + capital + "=1;}");
            String last = word.substring(0, word.length() - 1) + word.substring(word.length() - 1).toUpperCase();
            judged(0, -1, "main{int " + last + "=1;}");
        }
    }

    /** NAMES are the same only if all their signs are. */
    private static void allSignsCount() {
        String signs = "0123456789ABCDEFGHIJKLMNOPQRSTUVWXYZabcdefghijklmnopqrstuvwxyz";
        for (int i = 0; i < signs.length(); i++) {
            StringBuilder text = new StringBuilder("main{int x=1;");
            for (int j = i + 1; j < signs.length() && j <= i + 15; j++) {
                text.append("int x").append(signs.charAt(j)).append("=1;");
            }
            judged(0, -1, text + "}");
            judged(5, 13, "main{int x=1;x" + signs.charAt(i) + "=1;}");
        }
        String ten = "abcdefghij";
        for (int k = 0; k < 10; k++) {
            String other = ten.substring(0, k) + "z" + ten.substring(k + 1);
            saidAre("main { int " + ten + " = 1; int " + other + " = 2; say " + ten + "; say " + other + "; }", 1, 2);
            String shorter = ten.substring(0, k + 1);
            judged(k == 9 ? 4 : 0, k == 9 ? 31 : -1, "main { int " + ten + " = 1; int " + shorter + " = 2; }");
        }
        judged(0, -1, "class Abcdefghij[o]{}class Abcdefghi[o]{}class Abcdefghik[o]{}class Zbcdefghij[o]{}main{}");
        judged(4, 27, "class Abcdefghij[o]{}class Abcdefghij[o]{}main{}");
        for (int i = 0; i < signs.length(); i++) {
            for (int j = i + 1; j < signs.length(); j += 7) {
                judged(0, -1, "class A[x" + signs.charAt(i) + ",x" + signs.charAt(j) + "]{}main{}");
            }
            judged(4, 11, "class A[x" + signs.charAt(i) + ",x" + signs.charAt(i) + "]{}main{}");
        }
    }

    /** "TOKENS, as long as they go": == and != are one TOKEN, with a blank between they are not. */
    private static void longestSigns() {
        judged(0, -1, "main{say 1==1;say 1!=1;}");
        judged(2, 12, "main{int a= =1;}");
        judged(1, 10, "main{say 1! =1;}");
        judged(2, 12, "main{say 1===1;}");
        judged(2, 12, "main{say 1!==1;}");
        judged(1, 12, "main{say 1==!1;}");
        judged(2, 11, "main{say 1<=1;}");
        judged(2, 10, "main{say 1=<1;}");
        judged(2, 10, "main{int a==1;}");
        judged(0, -1, "main{say 1==-1;say 1!=-1;say 1<-1;}");
        judged(1, 6, "main{}!");
        judged(2, 6, "main{}!=");
        judged(2, 6, "main{}==");
    }

    public static void main(String[] args) {
        eachByteFirst();
        eachByteInAName();
        eachByteInAClassName();
        eachByteInANumber();
        eachByteInANote();
        lengths();
        leastOfOne();
        values();
        words();
        allSignsCount();
        longestSigns();
        CHECK.end();
    }
}
