import java.util.Arrays;

/**
 * A heap in which every object has an owner: classes with owners told by names are read, judged and
 * run step by step; a walker looks at the heap at any time. The words in capitals are those of the
 * document.
 */
public final class OwnerHeap {
    public static final int NONE = -1;

    private static final int TAPE_LENGTH = 3000;
    private static final int FEED_LENGTH = 20;
    /** How isIn() is asked for the OWNER this. */
    private static final int ASKED_THIS = -2;

    private final byte[] tape;
    private int taped;
    private final Tokens tokens;
    private final Reader reader;
    private final Judge judge;
    private final Coder coder;
    private Program program;
    /** Where the next TEXT is put, so that one with a FAULT leaves the PROGRAM as it is. */
    private Program spare;
    private boolean hasProgram;
    private int faultNumber;
    private int faultPlace;
    private final Heap heap;
    private final Machine machine;
    private final Walker walker;

    public OwnerHeap() {
        tape = new byte[TAPE_LENGTH];
        program = new Program();
        spare = new Program();
        tokens = new Tokens();
        reader = new Reader(tokens, spare);
        judge = new Judge(tokens, reader, spare);
        coder = new Coder(tokens, reader, judge, spare);
        faultNumber = NONE;
        faultPlace = NONE;
        heap = new Heap();
        machine = new Machine(heap, program);
        walker = new Walker(heap, program);
    }

    public int feed(int a, int b, int c, int d, int e) {
        if (taped + FEED_LENGTH > TAPE_LENGTH) {
            return NONE;
        }
        tapeInt(a);
        tapeInt(b);
        tapeInt(c);
        tapeInt(d);
        tapeInt(e);
        return taped;
    }

    private void tapeInt(int value) {
        for (int shift = 24; shift >= 0 && taped < TAPE_LENGTH; shift -= 8) {
            tape[taped] = (byte) (value >> shift);
            taped++;
        }
    }

    public int load(int n, boolean trust) {
        if (n < 0 || n > taped) {
            return NONE;
        }
        taped = 0;
        tokens.cut(tape, n);
        spare.clear();
        reader.readText(spare);
        if (tokens.isFine()) {
            judge.judgeHeads(spare, trust);
        }
        if (tokens.isFine()) {
            coder.codeAll(spare);
        }
        faultNumber = tokens.faultNumber;
        faultPlace = tokens.faultPlace;
        if (faultNumber == 0) {
            takeSpare();
        }
        return faultNumber;
    }

    private void takeSpare() {
        Program old = program;
        program = spare;
        spare = old;
        hasProgram = true;
        machine.drop();
        walker.forget();
    }

    public int fault(int what) {
        if (what == 0) {
            return faultNumber;
        }
        return what == 1 ? faultPlace : NONE;
    }

    public int type(int c, int what) {
        if (!hasProgram || c < 0 || c >= program.classes) {
            return NONE;
        }
        switch (what) {
            case 0: return program.names[c];
            case 1: return program.classAbove(c);
            case 2: return program.fields[c];
            case 3: return program.methods[c];
            case 4: return program.ins[c];
            case 5: return program.places[c];
            default: return NONE;
        }
    }

    public boolean isIn(int c, int i, int j) {
        if (!hasProgram || c < 0 || c >= program.classes) {
            return false;
        }
        int inner = ownerAsked(c, i);
        int outer = ownerAsked(c, j);
        return inner != NONE && outer != NONE && program.isKnown(c, inner, outer);
    }

    private int ownerAsked(int c, int i) {
        if (i == NONE) {
            return Program.WORLD;
        }
        if (i == ASKED_THIS) {
            return Program.THIS;
        }
        return i >= 0 && i < program.names[c] ? i : NONE;
    }

    public boolean start(int words, int calls) {
        if (!hasProgram || words < 8 || words > Heap.WORDS || calls < 1 || calls > Frames.MOST) {
            return false;
        }
        machine.begin(program, words, calls);
        walker.look(program);
        return true;
    }

    public int run(int n) {
        if (n < 1 || n > 2000 || machine.phase != Machine.GOING) {
            return NONE;
        }
        machine.goOn(n);
        walker.forget();
        return machine.phase;
    }

    public int state(int what) {
        switch (what) {
            case 0: return machine.phase;
            case 1: return machine.result;
            case 2: return machine.trouble;
            case 3: return machine.troublePlace;
            case 4: return machine.steps;
            case 5: return heap.taken;
            case 6: return heap.count;
            case 7: return machine.frames.open;
            case 8: return machine.frames.most;
            case 9: return machine.saidCount;
            default: return NONE;
        }
    }

    public int said(int k) {
        return k >= 0 && k < Machine.KEPT && k < machine.saidCount ? machine.saidRow[k] : 0;
    }

    public int call(int i, int what) {
        Frames frames = machine.frames;
        if (i < 0 || i >= frames.open) {
            return NONE;
        }
        int m = frames.member[i];
        switch (what) {
            case 0: return m == Members.MAIN ? NONE : program.members.home[m];
            case 1: return m == Members.MAIN ? NONE : program.members.number[m];
            case 2: return frames.self[i];
            case 3: return frames.statement[i];
            default: return NONE;
        }
    }

    public int variable(int i, int k) {
        Frames frames = machine.frames;
        if (i < 0 || i >= frames.open) {
            return 0;
        }
        boolean told = k >= 0 && k < program.members.variables[frames.member[i]];
        return told ? frames.variableAt(i, k) : 0;
    }

    public int object(int o, int what) {
        if (!heap.has(o)) {
            return NONE;
        }
        switch (what) {
            case 0: return heap.classOf(o);
            case 1: return heap.ownerAt(o, 0);
            case 2: return heap.ownersOf(o);
            case 3: return program.fields[heap.classOf(o)];
            case 4: return heap.depthOf(o);
            default: return NONE;
        }
    }

    public int owner(int o, int i) {
        boolean there = heap.has(o) && i >= 0 && i < heap.ownersOf(o);
        return there ? heap.ownerAt(o, i) : NONE;
    }

    public int field(int o, int i) {
        boolean there = heap.has(o) && i >= 0 && i < program.fields[heap.classOf(o)];
        return there ? heap.fieldAt(o, i) : 0;
    }

    public boolean isInside(int a, int b) {
        return heap.has(a) && (b == 0 || heap.has(b)) && heap.liesInside(a, b);
    }

    public int way(int a, int b) {
        return heap.has(a) && heap.has(b) ? walker.hopsBetween(a, b) : NONE;
    }

    public int above(int o) {
        return heap.has(o) ? walker.nearestAbove(o) : NONE;
    }

    public int leaks() {
        return walker.leakCount();
    }

    public int leak(int i) {
        return walker.leakAt(i);
    }

    public int past(int o, int i) {
        return heap.has(o) ? walker.objectPast(o, i) : NONE;
    }

    /** The TOKENS of a TEXT with a cursor on them, and the first FAULT that was met. */
    private static final class Tokens {
        static final int END = 0;
        static final int BAD = 1;
        static final int CLASSNAME = 2;
        static final int NAME = 3;
        static final int NUMBER = 4;
        /** The WORDS are numbered from here on, in the order of their list. */
        static final int CLASS = 5;
        static final int IS = 6;
        static final int WHERE = 7;
        static final int IN = 8;
        static final int MAIN = 9;
        static final int INT = 10;
        static final int NULL = 11;
        static final int THIS = 12;
        static final int WORLD = 13;
        static final int NEW = 14;
        static final int IF = 15;
        static final int ELSE = 16;
        static final int WHILE = 17;
        static final int RETURN = 18;
        static final int SAY = 19;
        static final int AS = 20;
        /** A SIGN of one byte is that byte. */
        static final int SAME = 200;
        static final int DIFFERENT = 201;

        private static final String WORDS =
            "class is where in main int null this world new if else while return say as ";
        private static final String SIGNS = "{}()[],;.=<+-*/%";
        private static final int WORD_COUNT = 16;
        private static final int LONGEST_NAME = 10;
        private static final int LONGEST_NUMBER = 9;
        private static final int LINE_END = 10;

        private final long[] words;
        private final int[] kinds;
        private final int[] places;
        private final long[] keys;
        private final int[] arguments;
        private int count;
        private int cursor;
        int faultNumber;
        int faultPlace;

        Tokens() {
            words = new long[WORD_COUNT];
            kinds = new int[TAPE_LENGTH + 1];
            places = new int[TAPE_LENGTH + 1];
            keys = new long[TAPE_LENGTH + 1];
            arguments = new int[TAPE_LENGTH + 1];
            int word = 0;
            for (int i = 0; i < WORDS.length() && word < WORD_COUNT; i++) {
                if (WORDS.charAt(i) == ' ') {
                    word++;
                } else {
                    words[word] = spelled(words[word], WORDS.charAt(i));
                }
            }
        }

        /** Ten signs of six bits fit a long, so that two spellings are compared at once. */
        private static long spelled(long key, int sign) {
            int code = sign - '0' + 1;
            if (sign >= 'a') {
                code = sign - 'a' + 37;
            } else if (sign >= 'A') {
                code = sign - 'A' + 11;
            }
            return key * 64 + code;
        }

        void cut(byte[] text, int length) {
            count = 0;
            cursor = 0;
            faultNumber = 0;
            faultPlace = NONE;
            int from = behindBlanks(text, 0, length);
            for (int k = 0; k < length && from < length; k++) {
                from = behindBlanks(text, cutOne(text, from, length), length);
            }
            put(END, length, 0);
        }

        private void put(int kind, int place, long key) {
            if (count < kinds.length) {
                kinds[count] = kind;
                places[count] = place;
                keys[count] = key;
                arguments[count] = 0;
                count++;
            }
        }

        private static int behindBlanks(byte[] text, int from, int length) {
            boolean note = false;
            for (int i = from; i < length; i++) {
                int sign = text[i];
                if (sign == LINE_END) {
                    note = false;
                } else if (sign == '#') {
                    note = true;
                } else if (!note && sign != ' ') {
                    return i;
                }
            }
            return length;
        }

        /** Behind a bad TOKEN nothing is cut: it is itself the first FAULT, if none is ahead of it. */
        private int cutOne(byte[] text, int from, int length) {
            int sign = text[from];
            int end;
            if (isLetter(sign)) {
                end = cutName(text, from, length);
            } else if (isDigit(sign)) {
                end = cutNumber(text, from, length);
            } else {
                end = cutSign(text, from, length);
            }
            if (end == NONE) {
                put(BAD, from, 0);
                return length;
            }
            return end;
        }

        private int cutName(byte[] text, int from, int length) {
            long key = 0;
            int end = from;
            while (end < length && (isLetter(text[end]) || isDigit(text[end]))) {
                key = spelled(key, text[end]);
                end++;
            }
            if (end - from > LONGEST_NAME) {
                return NONE;
            }
            put(text[from] <= 'Z' ? CLASSNAME : wordOrName(key), from, key);
            return end;
        }

        private int wordOrName(long key) {
            for (int i = 0; i < WORD_COUNT; i++) {
                if (words[i] == key) {
                    return CLASS + i;
                }
            }
            return NAME;
        }

        private int cutNumber(byte[] text, int from, int length) {
            long value = 0;
            int end = from;
            while (end < length && isDigit(text[end])) {
                value = value * 10 + (text[end] - '0');
                end++;
            }
            if (end - from > LONGEST_NUMBER) {
                return NONE;
            }
            put(NUMBER, from, value);
            return end;
        }

        private int cutSign(byte[] text, int from, int length) {
            int sign = text[from];
            boolean equalsBehind = from + 1 < length && text[from + 1] == '=';
            if (equalsBehind && (sign == '=' || sign == '!')) {
                put(sign == '=' ? SAME : DIFFERENT, from, 0);
                return from + 2;
            }
            if (sign <= 0 || SIGNS.indexOf((char) sign) < 0) {
                return NONE;
            }
            put(sign, from, 0);
            return from + 1;
        }

        private static boolean isLetter(int sign) {
            return (sign >= 'a' && sign <= 'z') || (sign >= 'A' && sign <= 'Z');
        }

        private static boolean isDigit(int sign) {
            return sign >= '0' && sign <= '9';
        }

        int size() {
            return count;
        }

        int now() {
            return cursor;
        }

        boolean is(int kind) {
            return kinds[cursor] == kind;
        }

        int kindNow() {
            return kinds[cursor];
        }

        int kindAt(int t) {
            return t >= 0 && t < count ? kinds[t] : END;
        }

        /** The spelling of a NAME, the value of a NUMBER. */
        long keyAt(int t) {
            return t >= 0 && t < count ? keys[t] : 0;
        }

        int placeAt(int t) {
            return t >= 0 && t < count ? places[t] : NONE;
        }

        int argumentsAt(int t) {
            return t >= 0 && t < count ? arguments[t] : 0;
        }

        void setArguments(int t, int many) {
            if (t >= 0 && t < count) {
                arguments[t] = many;
            }
        }

        void skip() {
            if (cursor < count - 1) {
                cursor++;
            }
        }

        /** Behind a FAULT the cursor stays at the end. */
        void goTo(int t) {
            if (faultNumber == 0 && t >= 0 && t < count) {
                cursor = t;
            }
        }

        void need(int kind) {
            if (kinds[cursor] == kind && kind != END) {
                cursor++;
            } else {
                refuse(2);
            }
        }

        boolean isCompareSign() {
            return is(SAME) || is(DIFFERENT) || is('<');
        }

        boolean isSumSign() {
            return is('+') || is('-');
        }

        boolean isProductSign() {
            return is('*') || is('/') || is('%');
        }

        boolean isFine() {
            return faultNumber == 0;
        }

        /** The TOKEN at the cursor can't be taken: a bad one for what it is, another for that number. */
        void refuse(int number) {
            if (faultNumber == 0) {
                faultNumber = kinds[cursor] == BAD ? 1 : number;
                faultPlace = places[cursor];
            }
            cursor = count - 1;
        }

        /** The cursor goes to the end, where all that reads comes to its own end at once. */
        void refuseAt(int number, int t) {
            if (faultNumber == 0 && t >= 0 && t < count) {
                faultNumber = number;
                faultPlace = places[t];
            }
            cursor = count - 1;
        }
    }

    /** Reads a TEXT by its rules: FAULTS 1 to 3, and where its CLASSES and MEMBERS stand. */
    private static final class Reader {
        static final int VARIABLES = 16;
        private static final int OPEN = 12;
        private static final int ARGUMENTS = 6;
        /** What an E is, as far as it matters to the ; or = behind it. */
        private static final int ANY = 0;
        private static final int NAME_ALONE = 1;
        private static final int FIELD_LAST = 2;
        private static final int CALL_LAST = 3;

        private final Tokens tokens;
        private Program program;
        private Members members;
        /** Numbers of TOKENS: the CLASSNAME, is (or NONE), the first IN. */
        final int[] classTokens;
        final int[] isTokens;
        final int[] inTokens;
        /** Numbers of TOKENS of each MEMBER: its TYPE, its NAME, its BLOCK. */
        final int[] typeTokens;
        final int[] nameTokens;
        final int[] blockTokens;
        private int opened;
        private int variables;

        Reader(Tokens tokens, Program into) {
            this.tokens = tokens;
            program = into;
            members = into.members;
            classTokens = new int[Program.CLASSES];
            isTokens = new int[Program.CLASSES];
            inTokens = new int[Program.CLASSES];
            typeTokens = new int[Members.ALL];
            nameTokens = new int[Members.ALL];
            blockTokens = new int[Members.ALL];
        }

        void readText(Program into) {
            program = into;
            members = into.members;
            opened = 0;
            for (int c = 0; c <= Program.CLASSES && tokens.is(Tokens.CLASS); c++) {
                readHead(c);
                for (int k = 0; k <= Program.MEMBERS && startsType(); k++) {
                    readMember(c, k);
                }
                close('}');
            }
            tokens.need(Tokens.MAIN);
            variables = 0;
            blockTokens[Members.MAIN] = tokens.now();
            readBlock();
            members.variables[Members.MAIN] = variables;
            if (!tokens.is(Tokens.END)) {
                tokens.refuse(2);
            }
        }

        private void open(int sign) {
            if (!tokens.is(sign)) {
                tokens.refuse(2);
            } else if (opened == OPEN) {
                tokens.refuse(3);
            } else {
                opened++;
                tokens.skip();
            }
        }

        private void close(int sign) {
            tokens.need(sign);
            opened--;
        }

        /** From class to behind the { of the CLASS. */
        private void readHead(int c) {
            if (c == Program.CLASSES) {
                tokens.refuse(3);
                return;
            }
            program.classes++;
            program.firstMember[c] = members.count;
            tokens.skip();
            classTokens[c] = tokens.now();
            program.places[c] = tokens.placeAt(tokens.now());
            tokens.need(Tokens.CLASSNAME);
            readNames(c);
            isTokens[c] = NONE;
            if (tokens.is(Tokens.IS)) {
                isTokens[c] = tokens.now();
                tokens.skip();
                readType(false);
            }
            if (tokens.is(Tokens.WHERE)) {
                readIns(c);
            }
            open('{');
        }

        private void readNames(int c) {
            tokens.need('[');
            readName(c);
            for (int k = 0; k < Program.NAMES && tokens.is(','); k++) {
                tokens.skip();
                readName(c);
            }
            tokens.need(']');
        }

        private void readName(int c) {
            if (!tokens.is(Tokens.NAME)) {
                tokens.refuse(2);
            } else if (program.names[c] == Program.NAMES) {
                tokens.refuse(3);
            } else {
                program.names[c]++;
                tokens.skip();
            }
        }

        private void readIns(int c) {
            tokens.skip();
            inTokens[c] = tokens.now();
            readIn(c);
            for (int k = 0; k < Program.INS && tokens.is(','); k++) {
                tokens.skip();
                readIn(c);
            }
        }

        private void readIn(int c) {
            if (!tokens.is(Tokens.NAME)) {
                tokens.refuse(2);
            } else if (program.ins[c] == Program.INS) {
                tokens.refuse(3);
            } else {
                program.ins[c]++;
                tokens.skip();
                tokens.need(Tokens.IN);
                tokens.need(Tokens.NAME);
            }
        }

        private void readMember(int c, int ahead) {
            int m = members.count;
            if (ahead == Program.MEMBERS || m >= Members.MOST) {
                tokens.refuse(3);
                return;
            }
            members.count++;
            program.memberCount[c]++;
            members.home[m] = c;
            typeTokens[m] = tokens.now();
            readType(true);
            nameTokens[m] = tokens.now();
            members.key[m] = tokens.keyAt(tokens.now());
            tokens.need(Tokens.NAME);
            if (tokens.is(';')) {
                tokens.skip();
                members.number[m] = program.ownFields[c];
                program.ownFields[c]++;
                return;
            }
            members.isMethod[m] = true;
            members.number[m] = program.methods[c];
            program.methods[c]++;
            readParams(m);
            variables = members.params[m];
            blockTokens[m] = tokens.now();
            readBlock();
            members.variables[m] = variables;
        }

        private void readParams(int m) {
            open('(');
            boolean more = !tokens.is(')');
            for (int k = 0; k <= Members.PARAMS && more; k++) {
                if (k == Members.PARAMS && startsType()) {
                    tokens.refuse(3);
                }
                readType(true);
                tokens.need(Tokens.NAME);
                members.params[m] = Math.min(k + 1, Members.PARAMS);
                more = tokens.is(',');
                if (more) {
                    tokens.skip();
                }
            }
            close(')');
        }

        private boolean startsType() {
            return tokens.is(Tokens.INT) || tokens.is(Tokens.CLASSNAME);
        }

        /** A TYPE; without orInt a KIND alone. */
        private void readType(boolean orInt) {
            if (orInt && tokens.is(Tokens.INT)) {
                tokens.skip();
                return;
            }
            tokens.need(Tokens.CLASSNAME);
            tokens.need('[');
            readOwner(0);
            for (int k = 1; k <= Program.NAMES && tokens.is(','); k++) {
                tokens.skip();
                readOwner(k);
            }
            tokens.need(']');
        }

        private void readOwner(int ahead) {
            if (!tokens.is(Tokens.THIS) && !tokens.is(Tokens.WORLD) && !tokens.is(Tokens.NAME)) {
                tokens.refuse(2);
            } else if (ahead == Program.NAMES) {
                tokens.refuse(3);
            } else {
                tokens.skip();
            }
        }

        private void readBlock() {
            open('{');
            for (int k = 0; k < tokens.size() && !tokens.is('}') && tokens.isFine(); k++) {
                readStatement();
            }
            close('}');
        }

        private void readStatement() {
            switch (tokens.kindNow()) {
                case '{':
                    readBlock();
                    break;
                case Tokens.IF:
                    readGuarded();
                    if (tokens.is(Tokens.ELSE)) {
                        tokens.skip();
                        readBlock();
                    }
                    break;
                case Tokens.WHILE:
                    readGuarded();
                    break;
                case Tokens.INT:
                case Tokens.CLASSNAME:
                    readVariable();
                    readValue();
                    tokens.need(';');
                    break;
                case Tokens.RETURN:
                case Tokens.SAY:
                    tokens.skip();
                    readValue();
                    tokens.need(';');
                    break;
                default:
                    if (readSetSign(readValue())) {
                        readValue();
                    }
                    tokens.need(';');
                    break;
            }
        }

        /** From if or while to behind its BLOCK. */
        private void readGuarded() {
            tokens.skip();
            open('(');
            readValue();
            close(')');
            readBlock();
        }

        /** A VARIABLE to behind its = . */
        private void readVariable() {
            readType(true);
            if (variables == VARIABLES && tokens.is(Tokens.NAME)) {
                tokens.refuse(3);
            }
            variables++;
            tokens.need(Tokens.NAME);
            tokens.need('=');
        }

        /** Takes the = behind the first E of a STATEMENT; false if there is its ; instead. */
        private boolean readSetSign(int shape) {
            boolean isSet = tokens.is('=') && (shape == NAME_ALONE || shape == FIELD_LAST);
            boolean isCall = tokens.is(';') && shape == CALL_LAST;
            if (isSet) {
                tokens.skip();
            } else if (!isCall) {
                tokens.refuse(2);
            }
            return isSet;
        }

        private int readValue() {
            int shape = readSum();
            if (tokens.isCompareSign()) {
                tokens.skip();
                readSum();
                return ANY;
            }
            return shape;
        }

        private int readSum() {
            int shape = readProduct();
            for (int k = 0; k < tokens.size() && tokens.isSumSign(); k++) {
                tokens.skip();
                readProduct();
                shape = ANY;
            }
            return shape;
        }

        private int readProduct() {
            int shape = readUnit();
            for (int k = 0; k < tokens.size() && tokens.isProductSign(); k++) {
                tokens.skip();
                readUnit();
                shape = ANY;
            }
            return shape;
        }

        private int readUnit() {
            if (!tokens.is('-')) {
                return readPost();
            }
            open('-');
            readUnit();
            opened--;
            return ANY;
        }

        private int readPost() {
            int shape = readAtom();
            for (int k = 0; k < tokens.size() && (tokens.is('.') || tokens.is(Tokens.AS)); k++) {
                if (tokens.is(Tokens.AS)) {
                    tokens.skip();
                    readType(false);
                    shape = ANY;
                } else {
                    tokens.skip();
                    tokens.need(Tokens.NAME);
                    shape = tokens.is('(') ? readArguments() : FIELD_LAST;
                }
            }
            return shape;
        }

        private int readArguments() {
            int first = tokens.now();
            int many = 0;
            open('(');
            boolean more = !tokens.is(')');
            for (int k = 0; k <= ARGUMENTS && more; k++) {
                if (k == ARGUMENTS && startsValue()) {
                    tokens.refuse(3);
                }
                readValue();
                many++;
                more = tokens.is(',');
                if (more) {
                    tokens.skip();
                }
            }
            close(')');
            tokens.setArguments(first, many);
            return CALL_LAST;
        }

        private boolean startsValue() {
            switch (tokens.kindNow()) {
                case '-':
                case '(':
                case Tokens.NUMBER:
                case Tokens.NULL:
                case Tokens.THIS:
                case Tokens.NAME:
                case Tokens.NEW:
                    return true;
                default:
                    return false;
            }
        }

        private int readAtom() {
            switch (tokens.kindNow()) {
                case Tokens.NUMBER:
                case Tokens.NULL:
                case Tokens.THIS:
                    tokens.skip();
                    return ANY;
                case Tokens.NAME:
                    tokens.skip();
                    return NAME_ALONE;
                case Tokens.NEW:
                    tokens.skip();
                    readType(false);
                    return ANY;
                case '(':
                    open('(');
                    readValue();
                    close(')');
                    return ANY;
                default:
                    tokens.refuse(2);
                    return ANY;
            }
        }
    }

    /**
     * What a TEXT tells, as the judge and the machine need it. A TYPE is one int: INT, NULL, or a KIND,
     * which is the number of its CLASS and three bits for each OWNER (those not there are 0), so that
     * two TYPES are the same if the ints are.
     */
    private static final class Program {
        static final int CLASSES = 16;
        static final int NAMES = 5;
        static final int INS = 8;
        static final int MEMBERS = 24;
        static final int INT = -1;
        static final int NULL = -2;
        /** OWNERS: the NAMES by number, then these. */
        static final int WORLD = 5;
        static final int THIS = 6;
        private static final int OWNERS = 7;
        private static final int OWNER_BITS = 3;
        private static final int OWNER_MASK = 7;
        private static final int CLASS_SHIFT = 15;
        private static final int LONG_BITS = 64;
        private static final int FIELD_LONGS = CLASSES * MEMBERS / LONG_BITS;

        int classes;
        final int[] names;
        final int[] places;
        final int[] ins;
        /** Each IN as its inner NAME times OWNERS and its outer one. */
        private final int[] inPairs;
        /** The KIND behind is, or NONE. */
        final int[] aboveKinds;
        final int[] methods;
        final int[] ownFields;
        final int[] fields;
        final int[] firstMember;
        final int[] memberCount;
        /** Of each OWNER in each CLASS: a bit for each OWNER that it is known to be IN. */
        private final int[] known;
        /** views[c * CLASSES + a]: the TYPE that c[its NAMES] is as an a, or NONE. */
        private final int[] views;
        /** A bit for each FIELD of each CLASS that holds OBJECTS. */
        private final long[] objectFields;
        final Members members;
        final Code code;

        Program() {
            names = new int[CLASSES];
            places = new int[CLASSES];
            ins = new int[CLASSES];
            inPairs = new int[CLASSES * INS];
            aboveKinds = new int[CLASSES];
            methods = new int[CLASSES];
            ownFields = new int[CLASSES];
            fields = new int[CLASSES];
            firstMember = new int[CLASSES];
            memberCount = new int[CLASSES];
            known = new int[CLASSES * OWNERS];
            views = new int[CLASSES * CLASSES];
            objectFields = new long[CLASSES * FIELD_LONGS];
            members = new Members();
            code = new Code();
        }

        void clear() {
            classes = 0;
            Arrays.fill(names, 0);
            Arrays.fill(ins, 0);
            Arrays.fill(aboveKinds, NONE);
            Arrays.fill(methods, 0);
            Arrays.fill(ownFields, 0);
            Arrays.fill(fields, 0);
            Arrays.fill(memberCount, 0);
            Arrays.fill(known, 0);
            Arrays.fill(views, NONE);
            Arrays.fill(objectFields, 0);
            members.clear();
            code.size = 0;
        }

        static int classOf(int kind) {
            return kind >> CLASS_SHIFT;
        }

        static int ownerIn(int kind, int i) {
            return (kind >> (OWNER_BITS * i)) & OWNER_MASK;
        }

        static int bareKind(int c) {
            return c << CLASS_SHIFT;
        }

        static int withOwner(int kind, int i, int owner) {
            return kind | owner << (OWNER_BITS * i);
        }

        static boolean hasThis(int kind) {
            boolean found = false;
            for (int i = 0; i < NAMES && kind >= 0; i++) {
                found = found || ownerIn(kind, i) == THIS;
            }
            return found;
        }

        int ownKind(int c) {
            int kind = bareKind(c);
            for (int i = 0; i < names[c]; i++) {
                kind = withOwner(kind, i, i);
            }
            return kind;
        }

        /** A TYPE in which the NAMES stand for the OWNERS of another one. */
        int standing(int kind, int forOwnersOf) {
            if (kind < 0 || forOwnersOf < 0) {
                return kind;
            }
            int c = classOf(kind);
            int made = bareKind(c);
            for (int i = 0; i < names[c]; i++) {
                int owner = ownerIn(kind, i);
                made = withOwner(made, i, owner < NAMES ? ownerIn(forOwnersOf, owner) : owner);
            }
            return made;
        }

        int classAbove(int c) {
            return aboveKinds[c] < 0 ? NONE : classOf(aboveKinds[c]);
        }

        int viewOf(int c, int a) {
            return views[c * CLASSES + a];
        }

        void fillViews() {
            for (int c = 0; c < classes; c++) {
                int kind = ownKind(c);
                for (int k = 0; k < CLASSES && kind >= 0; k++) {
                    int a = classOf(kind);
                    views[c * CLASSES + a] = kind;
                    kind = aboveKinds[a] < 0 ? NONE : standing(aboveKinds[a], kind);
                }
            }
        }

        /** Wants the views: FIELDS from above come first. */
        void fillFields() {
            for (int c = 0; c < classes; c++) {
                for (int a = 0; a < classes; a++) {
                    fields[c] += viewOf(c, a) < 0 ? 0 : ownFields[a];
                }
            }
            for (int m = 0; m < members.count; m++) {
                int c = members.home[m];
                members.number[m] += members.isMethod[m] ? 0 : fields[c] - ownFields[c];
            }
        }

        /** Wants the TYPES of the MEMBERS. */
        void fillObjectFields() {
            for (int m = 0; m < members.count; m++) {
                for (int c = 0; c < classes && !members.isMethod[m] && members.types[m] >= 0; c++) {
                    if (viewOf(c, members.home[m]) >= 0) {
                        int slot = members.number[m];
                        objectFields[c * FIELD_LONGS + slot / LONG_BITS] |= 1L << (slot % LONG_BITS);
                    }
                }
            }
        }

        boolean holdsObject(int c, int slot) {
            return (objectFields[c * FIELD_LONGS + slot / LONG_BITS] >> (slot % LONG_BITS) & 1L) != 0;
        }

        void fillKnown() {
            for (int c = 0; c < classes; c++) {
                fillToldKnown(c);
                closeKnown(c);
            }
        }

        private void fillToldKnown(int c) {
            for (int x = 0; x < OWNERS; x++) {
                know(c, x, x);
                know(c, x, WORLD);
            }
            know(c, THIS, 0);
            for (int i = 0; i < names[c]; i++) {
                know(c, 0, i);
            }
            for (int i = 0; i < ins[c]; i++) {
                int pair = inPairs[c * INS + i];
                know(c, pair / OWNERS, pair % OWNERS);
            }
        }

        void setIn(int c, int i, int inner, int outer) {
            if (inner != NONE && outer != NONE) {
                inPairs[c * INS + i] = inner * OWNERS + outer;
            }
        }

        private void know(int c, int inner, int outer) {
            known[c * OWNERS + inner] |= 1 << outer;
        }

        private void closeKnown(int c) {
            for (int through = 0; through < OWNERS; through++) {
                for (int x = 0; x < OWNERS; x++) {
                    if (isKnown(c, x, through)) {
                        known[c * OWNERS + x] |= known[c * OWNERS + through];
                    }
                }
            }
        }

        /** c is NONE in main, where world alone is an OWNER. */
        boolean isKnown(int c, int inner, int outer) {
            if (c == NONE) {
                return inner == WORLD && outer == WORLD;
            }
            return (known[c * OWNERS + inner] >> outer & 1) != 0;
        }

        boolean isNested(int c, int kind) {
            int of = classOf(kind);
            boolean nested = true;
            for (int i = 1; i < names[of]; i++) {
                nested = nested && isKnown(c, ownerIn(kind, 0), ownerIn(kind, i));
            }
            for (int i = 0; i < ins[of]; i++) {
                int pair = inPairs[of * INS + i];
                int inner = ownerIn(kind, pair / OWNERS);
                nested = nested && isKnown(c, inner, ownerIn(kind, pair % OWNERS));
            }
            return nested;
        }

        boolean fits(int type, int wanted) {
            if (type == NULL) {
                return wanted != INT;
            }
            if (type < 0 || wanted < 0) {
                return type == wanted;
            }
            int view = viewOf(classOf(type), classOf(wanted));
            return view >= 0 && standing(view, type) == wanted;
        }

        /** The FIELD or METHOD of that NAME that CLASS c has, its own or the nearest from above. */
        int memberNamed(int c, long key, boolean isMethod) {
            int a = c;
            for (int k = 0; k < CLASSES && a != NONE; k++) {
                int m = ownMemberNamed(a, key);
                if (m != NONE && members.isMethod[m] == isMethod) {
                    return m;
                }
                a = classAbove(a);
            }
            return NONE;
        }

        int ownMemberNamed(int c, long key) {
            int first = firstMember[c];
            for (int m = first; m < first + memberCount[c]; m++) {
                if (members.key[m] == key) {
                    return m;
                }
            }
            return NONE;
        }
    }

    /** The MEMBERS of a PROGRAM, those of a CLASS one behind the other; main is the last of the rows. */
    private static final class Members {
        static final int MOST = Program.CLASSES * Program.MEMBERS;
        static final int MAIN = MOST;
        static final int ALL = MOST + 1;
        static final int PARAMS = 6;

        int count;
        final long[] key;
        final int[] home;
        final int[] types;
        final boolean[] isMethod;
        /** Which of the OBJECT's FIELDS, or of its CLASS's METHODS. */
        final int[] number;
        final int[] params;
        private final int[] paramTypes;
        final int[] variables;
        final int[] start;

        Members() {
            key = new long[ALL];
            home = new int[ALL];
            types = new int[ALL];
            isMethod = new boolean[ALL];
            number = new int[ALL];
            params = new int[ALL];
            paramTypes = new int[ALL * PARAMS];
            variables = new int[ALL];
            start = new int[ALL];
        }

        void clear() {
            count = 0;
            for (int m = 0; m < ALL; m++) {
                isMethod[m] = m == MAIN;
                params[m] = 0;
            }
            home[MAIN] = NONE;
            types[MAIN] = Program.INT;
        }

        int paramType(int m, int i) {
            return paramTypes[m * PARAMS + i];
        }

        void setParamType(int m, int i, int type) {
            paramTypes[m * PARAMS + i] = type;
        }

        boolean hasThis(int m) {
            boolean found = Program.hasThis(types[m]);
            for (int i = 0; i < params[m]; i++) {
                found = found || Program.hasThis(paramType(m, i));
            }
            return found;
        }
    }

    /** What the machine does, one instruction behind the other; each with at most one STEP. */
    private static final class Code {
        static final int PUSH = 0;
        static final int LOAD = 1;
        static final int STORE = 2;
        static final int SELF = 3;
        static final int PUT = 4;
        static final int POP = 5;
        static final int JUMP = 6;
        static final int JUMP_ZERO = 7;
        static final int SAY = 8;
        static final int RETURN = 9;
        /** From here on each takes a STEP. */
        static final int STATEMENT = 10;
        static final int LOOP = 11;
        static final int GET = 12;
        static final int CALL = 13;
        static final int NEW = 14;
        static final int AS = 15;
        static final int NEGATE = 16;
        /** From here on each works on two numbers. */
        static final int ADD = 17;
        static final int SUBTRACT = 18;
        static final int MULTIPLY = 19;
        static final int DIVIDE = 20;
        static final int REST = 21;
        static final int LESS = 22;
        static final int SAME = 23;
        static final int DIFFERENT = 24;
        /** No TEXT asks for more instructions than it has bytes. */
        private static final int LENGTH = TAPE_LENGTH + 100;

        final int[] ops;
        final int[] args;
        final int[] places;
        int size;

        Code() {
            ops = new int[LENGTH];
            args = new int[LENGTH];
            places = new int[LENGTH];
        }

        int emit(int op, int arg, int place) {
            int at = size;
            if (at < LENGTH) {
                ops[at] = op;
                args[at] = arg;
                places[at] = place;
                size++;
            }
            return at;
        }

        void aimHere(int at) {
            if (at < LENGTH) {
                args[at] = size;
            }
        }
    }

    /** Judges all of a TEXT but its BLOCKS: the CLASSES' NAMES, KINDS and MEMBERS. */
    private static final class Judge {
        private final Tokens tokens;
        private final Reader reader;
        private Program program;
        private Members members;
        private boolean trust;
        private final long[] classKeys;
        private final long[] nameKeys;
        private final long[] paramKeys;

        Judge(Tokens tokens, Reader reader, Program judged) {
            this.tokens = tokens;
            this.reader = reader;
            program = judged;
            members = judged.members;
            classKeys = new long[Program.CLASSES];
            nameKeys = new long[Program.CLASSES * Program.NAMES];
            paramKeys = new long[Members.PARAMS];
        }

        /** The order is the document's: (a) to (e). */
        void judgeHeads(Program judged, boolean trusted) {
            program = judged;
            members = judged.members;
            trust = trusted;
            judgeNames();
            judgeAboves();
            judgeCircles();
            judgeIns();
            if (tokens.isFine()) {
                program.fillViews();
                program.fillFields();
                program.fillKnown();
            }
            judgeMembers();
            judgeOvers();
            if (tokens.isFine()) {
                program.fillObjectFields();
            }
        }

        private void judgeNames() {
            for (int c = 0; c < program.classes && tokens.isFine(); c++) {
                int t = reader.classTokens[c];
                classKeys[c] = tokens.keyAt(t);
                if (classNamed(classKeys[c]) < c) {
                    tokens.refuseAt(4, t);
                }
                judgeNamesOf(c, t);
            }
        }

        /** The NAMES stand behind the CLASSNAME, with a sign ahead of each. */
        private void judgeNamesOf(int c, int t) {
            for (int i = 0; i < program.names[c]; i++) {
                int name = t + 2 + 2 * i;
                nameKeys[c * Program.NAMES + i] = tokens.keyAt(name);
                if (nameNumber(c, tokens.keyAt(name)) < i) {
                    tokens.refuseAt(4, name);
                }
            }
        }

        private int classNamed(long key) {
            for (int c = 0; c < program.classes; c++) {
                if (classKeys[c] == key) {
                    return c;
                }
            }
            return NONE;
        }

        private int nameNumber(int c, long key) {
            for (int i = 0; i < program.names[c]; i++) {
                if (nameKeys[c * Program.NAMES + i] == key) {
                    return i;
                }
            }
            return NONE;
        }

        private void judgeAboves() {
            for (int c = 0; c < program.classes && tokens.isFine(); c++) {
                int is = reader.isTokens[c];
                if (is == NONE) {
                    continue;
                }
                tokens.goTo(is + 1);
                int kind = kindHere(c, true);
                program.aboveKinds[c] = kind;
                if (Program.ownerIn(kind, 0) != 0) {
                    tokens.refuseAt(11, is);
                }
            }
        }

        private void judgeCircles() {
            for (int c = 0; c < program.classes && tokens.isFine(); c++) {
                int a = program.classAbove(c);
                for (int k = 0; k < Program.CLASSES && a != NONE && a != c; k++) {
                    a = program.classAbove(a);
                }
                if (a == c) {
                    tokens.refuseAt(11, reader.isTokens[c]);
                }
            }
        }

        private void judgeIns() {
            for (int c = 0; c < program.classes && tokens.isFine(); c++) {
                for (int i = 0; i < program.ins[c] && tokens.isFine(); i++) {
                    int first = reader.inTokens[c] + 4 * i;
                    int inner = nameInIn(c, first);
                    int outer = nameInIn(c, first + 2);
                    program.setIn(c, i, inner, outer);
                }
            }
        }

        private int nameInIn(int c, int t) {
            int i = nameNumber(c, tokens.keyAt(t));
            if (i == NONE) {
                tokens.refuseAt(5, t);
            }
            return i;
        }

        private void judgeMembers() {
            for (int c = 0; c < program.classes && tokens.isFine(); c++) {
                int kind = program.aboveKinds[c];
                if (kind >= 0 && !trust && !program.isNested(c, kind)) {
                    tokens.refuseAt(8, reader.isTokens[c] + 1);
                }
                int first = program.firstMember[c];
                for (int m = first; m < first + program.memberCount[c] && tokens.isFine(); m++) {
                    judgeMember(c, m);
                }
            }
        }

        private void judgeMember(int c, int m) {
            tokens.goTo(reader.typeTokens[m]);
            members.types[m] = typeHere(c);
            int name = reader.nameTokens[m];
            if (program.ownMemberNamed(c, members.key[m]) != m) {
                tokens.refuseAt(4, name);
            }
            tokens.goTo(name + 2);
            for (int i = 0; i < members.params[m] && tokens.isFine(); i++) {
                members.setParamType(m, i, typeHere(c));
                judgeParamName(i);
            }
        }

        /** The cursor is at the NAME, and goes to the next of PARAMS. */
        private void judgeParamName(int i) {
            long key = tokens.keyAt(tokens.now());
            for (int j = 0; j < i; j++) {
                if (paramKeys[j] == key) {
                    tokens.refuse(4);
                }
            }
            paramKeys[i] = key;
            tokens.skip();
            tokens.skip();
        }

        private void judgeOvers() {
            for (int m = 0; m < members.count && tokens.isFine(); m++) {
                int over = NONE;
                int a = program.classAbove(members.home[m]);
                for (int k = 0; k < Program.CLASSES && a != NONE; k++) {
                    int other = program.ownMemberNamed(a, members.key[m]);
                    if (other != NONE && !(members.isMethod[m] && members.isMethod[other])) {
                        tokens.refuseAt(4, reader.nameTokens[m]);
                    }
                    over = over == NONE ? other : over;
                    a = program.classAbove(a);
                }
                if (over != NONE && !isSame(m, over)) {
                    tokens.refuseAt(9, reader.nameTokens[m]);
                }
            }
        }

        private boolean isSame(int m, int over) {
            int view = program.viewOf(members.home[m], members.home[over]);
            boolean same = members.types[m] == program.standing(members.types[over], view)
                && members.params[m] == members.params[over];
            for (int i = 0; same && i < members.params[m]; i++) {
                same = members.paramType(m, i) == program.standing(members.paramType(over, i), view);
            }
            return same;
        }

        int typeHere(int c) {
            if (tokens.is(Tokens.INT)) {
                tokens.skip();
                return Program.INT;
            }
            return kindHere(c, false);
        }

        /** The KIND at the cursor, judged in CLASS c (NONE: in main); the cursor goes behind it. */
        int kindHere(int c, boolean behindIs) {
            int t = tokens.now();
            int of = classNamed(tokens.keyAt(t));
            if (of == NONE) {
                tokens.refuseAt(5, t);
                return 0;
            }
            int many = ownersAt(t);
            if (many != program.names[of]) {
                tokens.refuseAt(6, t);
                return 0;
            }
            int kind = Program.bareKind(of);
            for (int i = 0; i < many; i++) {
                int owner = ownerHere(c, t + 2 + 2 * i, behindIs);
                if (owner == NONE) {
                    tokens.refuseAt(5, t + 2 + 2 * i);
                    return 0;
                }
                kind = Program.withOwner(kind, i, owner);
            }
            tokens.goTo(t + 2 + 2 * many);
            if (!behindIs && !trust && !program.isNested(c, kind)) {
                tokens.refuseAt(8, t);
            }
            return kind;
        }

        /** How many OWNERS the KIND at TOKEN t has. */
        int ownersAt(int t) {
            int many = 1;
            while (many < Program.NAMES && tokens.kindAt(t + 1 + 2 * many) == ',') {
                many++;
            }
            return many;
        }

        private int ownerHere(int c, int t, boolean behindIs) {
            switch (tokens.kindAt(t)) {
                case Tokens.WORLD: return Program.WORLD;
                case Tokens.THIS: return c == NONE || behindIs ? NONE : Program.THIS;
                default: return c == NONE ? NONE : nameNumber(c, tokens.keyAt(t));
            }
        }
    }

    /** Judges the BLOCKS of a TEXT, whose rules are known to be kept, and makes their code. */
    private static final class Coder {
        private final Tokens tokens;
        private final Reader reader;
        private final Judge judge;
        private Program program;
        private Members members;
        private Code code;
        /** The CLASS in which is judged (NONE: main), and what return gives there. */
        private int home;
        private int returned;
        /** The VARIABLES that are known, and how many were told, known or not. */
        private final long[] keys;
        private final int[] types;
        private final int[] numbers;
        private int known;
        private int told;
        /** What is left of an = : how it is set, which it is, its NAME's place, its TYPE. */
        private int targetOp;
        private int target;
        private int targetPlace;
        private int targetType;

        Coder(Tokens tokens, Reader reader, Judge judge, Program judged) {
            this.tokens = tokens;
            this.reader = reader;
            this.judge = judge;
            program = judged;
            members = judged.members;
            code = judged.code;
            keys = new long[Reader.VARIABLES];
            types = new int[Reader.VARIABLES];
            numbers = new int[Reader.VARIABLES];
        }

        /** The METHODS in order, then main, which is the last of the rows. */
        void codeAll(Program judged) {
            program = judged;
            members = judged.members;
            code = judged.code;
            for (int m = 0; m <= Members.MAIN && tokens.isFine(); m++) {
                if (members.isMethod[m]) {
                    knowParams(m);
                    home = members.home[m];
                    returned = members.types[m];
                    members.start[m] = code.size;
                    tokens.goTo(reader.blockTokens[m]);
                    codeBlock();
                    code.emit(Code.PUSH, 0, NONE);
                    code.emit(Code.RETURN, 0, NONE);
                }
            }
        }

        private void knowParams(int m) {
            known = 0;
            told = 0;
            tokens.goTo(reader.nameTokens[m] + 2);
            for (int i = 0; i < members.params[m]; i++) {
                int t = tokens.now();
                int name = tokens.is(Tokens.INT) ? t + 1 : t + 2 + 2 * judge.ownersAt(t);
                know(tokens.keyAt(name), members.paramType(m, i));
                tokens.goTo(name + 2);
            }
        }

        private void know(long key, int type) {
            if (known < keys.length) {
                keys[known] = key;
                types[known] = type;
                numbers[known] = told;
                known++;
                told++;
            }
        }

        /** Where in the rows of those known the VARIABLE is, or NONE. */
        private int knownNamed(long key) {
            for (int i = 0; i < known; i++) {
                if (keys[i] == key) {
                    return i;
                }
            }
            return NONE;
        }

        private void codeBlock() {
            int before = known;
            tokens.skip();
            for (int k = 0; k < tokens.size() && !tokens.is('}') && tokens.isFine(); k++) {
                codeStatement();
            }
            tokens.skip();
            known = before;
        }

        private void codeStatement() {
            int first = tokens.kindNow();
            if (first != '{') {
                code.emit(Code.STATEMENT, 0, tokens.placeAt(tokens.now()));
            }
            switch (first) {
                case '{':
                    codeBlock();
                    break;
                case Tokens.IF:
                    codeIf();
                    break;
                case Tokens.WHILE:
                    codeWhile();
                    break;
                case Tokens.RETURN:
                    codeFitting(returned);
                    code.emit(Code.RETURN, 0, NONE);
                    break;
                case Tokens.SAY:
                    codeFitting(Program.INT);
                    code.emit(Code.SAY, 0, NONE);
                    break;
                case Tokens.INT:
                case Tokens.CLASSNAME:
                    int type = judge.typeHere(home);
                    long key = newNameHere();
                    codeFitting(type);
                    code.emit(Code.STORE, told, NONE);
                    know(key, type);
                    break;
                default:
                    if (codeLeft() != Code.POP) {
                        codeFitting(targetType);
                    }
                    code.emit(targetOp, target, targetPlace);
                    break;
            }
        }

        /** The NAME of a VARIABLE that is told. */
        private long newNameHere() {
            long key = tokens.keyAt(tokens.now());
            if (knownNamed(key) != NONE) {
                tokens.refuse(4);
            }
            tokens.skip();
            return key;
        }

        /** The last E of a STATEMENT, from the sign or word ahead of it to behind the ; . */
        private void codeFitting(int wanted) {
            int sign = tokens.now();
            tokens.skip();
            if (!program.fits(codeValue(), wanted)) {
                tokens.refuseAt(7, sign);
            }
            tokens.skip();
        }

        /** The first E of a STATEMENT: a call with its ; or what is left of = , the target. */
        private int codeLeft() {
            if (tokens.is(Tokens.NAME) && tokens.kindAt(tokens.now() + 1) == '=') {
                int i = knownHere();
                aimAt(Code.STORE, numberOfKnown(i), NONE);
                targetType = typeOfKnown(i);
                return targetOp;
            }
            targetType = codeValue();
            if (!tokens.is('=')) {
                tokens.skip();
                aimAt(Code.POP, 0, NONE);
            }
            return targetOp;
        }

        private void aimAt(int op, int number, int place) {
            targetOp = op;
            target = number;
            targetPlace = place;
        }

        private void refuseIfInt(int type, int t) {
            if (type == Program.INT) {
                tokens.refuseAt(7, t);
            }
        }

        private void askNumber(int type, int t) {
            if (type != Program.INT) {
                tokens.refuseAt(7, t);
            }
        }

        private void codeIf() {
            int over = codeCondition();
            codeBlock();
            if (!tokens.is(Tokens.ELSE)) {
                code.aimHere(over);
                return;
            }
            tokens.skip();
            int behind = code.emit(Code.JUMP, 0, NONE);
            code.aimHere(over);
            codeBlock();
            code.aimHere(behind);
        }

        private void codeWhile() {
            int again = code.emit(Code.LOOP, 0, NONE);
            int out = codeCondition();
            codeBlock();
            code.emit(Code.JUMP, again, NONE);
            code.aimHere(out);
        }

        /** From if or while up to its BLOCK: the jump that is to be aimed. */
        private int codeCondition() {
            int word = tokens.now();
            tokens.skip();
            tokens.skip();
            askNumber(codeValue(), word);
            tokens.skip();
            return code.emit(Code.JUMP_ZERO, 0, NONE);
        }

        /** The VARIABLE at the cursor, which goes behind it. */
        private int knownHere() {
            int i = knownNamed(tokens.keyAt(tokens.now()));
            if (i == NONE) {
                tokens.refuse(5);
            }
            tokens.skip();
            return i;
        }

        private int typeOfKnown(int i) {
            return i == NONE ? Program.INT : types[i];
        }

        private int numberOfKnown(int i) {
            return i == NONE ? 0 : numbers[i];
        }

        private int codeValue() {
            int type = codeSum();
            if (!tokens.isCompareSign()) {
                return type;
            }
            int sign = tokens.now();
            tokens.skip();
            int other = codeSum();
            if (tokens.kindAt(sign) == '<') {
                askNumbers(type, other, sign);
            } else if ((type == Program.INT) != (other == Program.INT)) {
                tokens.refuseAt(7, sign);
            }
            return codeOperator(sign);
        }

        private void askNumbers(int type, int other, int sign) {
            askNumber(type, sign);
            askNumber(other, sign);
        }

        private int codeSum() {
            int type = codeProduct();
            for (int k = 0; k < tokens.size() && tokens.isSumSign(); k++) {
                int sign = tokens.now();
                tokens.skip();
                askNumbers(type, codeProduct(), sign);
                type = codeOperator(sign);
            }
            return type;
        }

        private int codeProduct() {
            int type = codeUnit();
            for (int k = 0; k < tokens.size() && tokens.isProductSign(); k++) {
                int sign = tokens.now();
                tokens.skip();
                askNumbers(type, codeUnit(), sign);
                type = codeOperator(sign);
            }
            return type;
        }

        private int codeOperator(int sign) {
            code.emit(operatorOf(tokens.kindAt(sign)), 0, tokens.placeAt(sign));
            return Program.INT;
        }

        private static int operatorOf(int sign) {
            switch (sign) {
                case '+': return Code.ADD;
                case '-': return Code.SUBTRACT;
                case '*': return Code.MULTIPLY;
                case '/': return Code.DIVIDE;
                case '%': return Code.REST;
                case '<': return Code.LESS;
                case Tokens.SAME: return Code.SAME;
                default: return Code.DIFFERENT;
            }
        }

        private int codeUnit() {
            if (!tokens.is('-')) {
                return codePost();
            }
            int sign = tokens.now();
            tokens.skip();
            askNumber(codeUnit(), sign);
            code.emit(Code.NEGATE, 0, tokens.placeAt(sign));
            return Program.INT;
        }

        private int codePost() {
            boolean thisAlone = tokens.is(Tokens.THIS);
            int type = codeAtom();
            for (int k = 0; k < tokens.size() && (tokens.is('.') || tokens.is(Tokens.AS)); k++) {
                int sign = tokens.now();
                tokens.skip();
                if (tokens.kindAt(sign) == '.') {
                    type = codeMember(type, thisAlone);
                } else {
                    int kind = judge.kindHere(home, false);
                    refuseIfInt(type, sign);
                    code.emit(Code.AS, kind, tokens.placeAt(sign));
                    type = kind;
                }
                thisAlone = false;
            }
            return type;
        }

        private int codeAtom() {
            switch (tokens.kindNow()) {
                case Tokens.NAME:
                    int i = knownHere();
                    code.emit(Code.LOAD, numberOfKnown(i), NONE);
                    return typeOfKnown(i);
                case Tokens.THIS:
                    return codeThis();
                case Tokens.NEW:
                    int word = tokens.now();
                    tokens.skip();
                    int kind = judge.kindHere(home, false);
                    code.emit(Code.NEW, kind, tokens.placeAt(word));
                    return kind;
                case Tokens.NULL:
                    tokens.skip();
                    code.emit(Code.PUSH, 0, NONE);
                    return Program.NULL;
                case '(':
                    tokens.skip();
                    int type = codeValue();
                    tokens.skip();
                    return type;
                default:
                    code.emit(Code.PUSH, (int) tokens.keyAt(tokens.now()), NONE);
                    tokens.skip();
                    return Program.INT;
            }
        }

        private int codeThis() {
            if (home == NONE) {
                tokens.refuse(5);
                return Program.INT;
            }
            tokens.skip();
            code.emit(Code.SELF, 0, NONE);
            return program.ownKind(home);
        }

        /** The cursor is at the NAME behind an E of that TYPE. */
        private int codeMember(int type, boolean thisAlone) {
            int name = tokens.now();
            if (type < 0) {
                tokens.refuseAt(7, name);
                return Program.INT;
            }
            boolean isCall = tokens.kindAt(name + 1) == '(';
            int of = Program.classOf(type);
            int m = program.memberNamed(of, tokens.keyAt(name), isCall);
            if (m == NONE) {
                tokens.refuseAt(5, name);
                return Program.INT;
            }
            if (!thisAlone && members.hasThis(m)) {
                tokens.refuseAt(10, name);
            }
            tokens.skip();
            int seen = program.standing(program.viewOf(of, members.home[m]), type);
            if (isCall) {
                codeCall(m, name, seen);
            } else {
                codeField(m, name);
            }
            return program.standing(members.types[m], seen);
        }

        /** Behind an E an = comes only where the E is set. */
        private void codeField(int m, int name) {
            int place = tokens.placeAt(name);
            if (tokens.is('=')) {
                aimAt(Code.PUT, members.number[m], place);
            } else {
                code.emit(Code.GET, members.number[m], place);
            }
        }

        private void codeCall(int m, int name, int seen) {
            if (tokens.argumentsAt(name + 1) != members.params[m]) {
                tokens.refuseAt(6, name);
                return;
            }
            tokens.skip();
            for (int i = 0; i < members.params[m] && tokens.isFine(); i++) {
                if (i > 0) {
                    tokens.skip();
                }
                int first = tokens.now();
                int wanted = program.standing(members.paramType(m, i), seen);
                if (!program.fits(codeValue(), wanted)) {
                    tokens.refuseAt(7, first);
                }
            }
            tokens.skip();
            code.emit(Code.CALL, m, tokens.placeAt(name));
        }
    }

    /** The OBJECTS of a RUN: in the two WORDS ahead of its OWNERS each has its CLASS and their number. */
    private static final class Heap {
        static final int WORDS = 4000;
        /** The least OBJECT has three WORDS. */
        static final int OBJECTS = WORDS / 3 + 1;
        private static final int HEAD = 2;

        private final int[] words;
        private final int[] bases;
        int count;
        int taken;
        private int limit;

        Heap() {
            words = new int[WORDS];
            bases = new int[OBJECTS + 1];
        }

        void empty(int words) {
            count = 0;
            taken = 0;
            limit = words;
        }

        /** A new OBJECT whose OWNERS are not told yet, or 0 if there are not so many WORDS left. */
        int make(int c, int owners, int fields) {
            int length = HEAD + owners + fields;
            if (length > limit - taken || count >= OBJECTS) {
                return 0;
            }
            count++;
            bases[count] = taken;
            words[taken] = c;
            words[taken + 1] = owners;
            Arrays.fill(words, taken + HEAD, taken + length, 0);
            taken += length;
            return count;
        }

        boolean has(int o) {
            return o > 0 && o <= count;
        }

        int classOf(int o) {
            return words[bases[o]];
        }

        int ownersOf(int o) {
            return words[bases[o] + 1];
        }

        int ownerAt(int o, int i) {
            return words[bases[o] + HEAD + i];
        }

        void setOwner(int o, int i, int owner) {
            words[bases[o] + HEAD + i] = owner;
        }

        int fieldAt(int o, int slot) {
            int base = bases[o];
            return words[base + HEAD + words[base + 1] + slot];
        }

        void setField(int o, int slot, int value) {
            int base = bases[o];
            words[base + HEAD + words[base + 1] + slot] = value;
        }

        /** How many owners are behind o: each is older than what it owns. */
        int depthOf(int o) {
            int depth = 0;
            for (int a = ownerAt(o, 0); a > 0 && depth <= count; a = ownerAt(a, 0)) {
                depth++;
            }
            return depth;
        }

        boolean liesInside(int a, int b) {
            int inner = a;
            for (int k = 0; k <= count && inner > b; k++) {
                inner = ownerAt(inner, 0);
            }
            return inner == b || b == 0;
        }
    }

    /** The CALLS that are open. */
    private static final class Frames {
        static final int MOST = 40;

        int open;
        int most;
        final int[] member;
        final int[] self;
        /** Where its caller goes on. */
        final int[] back;
        final int[] statement;
        private final int[] variables;

        Frames() {
            member = new int[MOST];
            self = new int[MOST];
            back = new int[MOST];
            statement = new int[MOST];
            variables = new int[MOST * Reader.VARIABLES];
        }

        void close() {
            open = 0;
        }

        void add(int m, int o, int goesOn) {
            if (open >= MOST) {
                return;
            }
            member[open] = m;
            self[open] = o;
            back[open] = goesOn;
            statement[open] = NONE;
            int first = open * Reader.VARIABLES;
            Arrays.fill(variables, first, first + Reader.VARIABLES, 0);
            open++;
            most = Math.max(most, open);
        }

        int variableAt(int i, int k) {
            return variables[i * Reader.VARIABLES + k];
        }

        int top() {
            return Math.max(open - 1, 0);
        }

        void setVariable(int k, int value) {
            variables[top() * Reader.VARIABLES + k] = value;
        }
    }

    /** Does a RUN, STEP by STEP. Behind goOn() the next instruction takes a STEP. */
    private static final class Machine {
        static final int KEPT = 200;
        static final int GOING = 1;
        private static final int ENDED = 2;
        private static final int TROUBLED = 3;
        private static final int NULL = 1;
        private static final int ZERO = 2;
        private static final int CAST = 3;
        private static final int FULL = 4;
        private static final int DEEP = 5;
        /** Twelve open ( with at most nine values each wait in one CALL. */
        private static final int VALUES = 128;
        /** Far above all that can be done between two STEPS. */
        private static final int LONGEST = 1000000;

        private final Heap heap;
        final Frames frames;
        private Program program;
        private Code code;
        private int pc;
        private final int[] stack;
        private int height;
        private int calls;
        int phase;
        int result;
        int trouble;
        int troublePlace;
        int steps;
        int saidCount;
        final int[] saidRow;

        Machine(Heap heap, Program of) {
            this.heap = heap;
            program = of;
            code = of.code;
            frames = new Frames();
            stack = new int[Frames.MOST * VALUES];
            saidRow = new int[KEPT];
            troublePlace = NONE;
        }

        /** There is no RUN then. */
        void drop() {
            phase = 0;
            result = 0;
            trouble = 0;
            troublePlace = NONE;
            steps = 0;
            saidCount = 0;
            height = 0;
            frames.close();
            frames.most = 0;
            heap.empty(0);
        }

        void begin(Program of, int words, int mostCalls) {
            drop();
            program = of;
            code = of.code;
            calls = mostCalls;
            heap.empty(words);
            phase = GOING;
            frames.add(Members.MAIN, 0, 0);
            pc = program.members.start[Members.MAIN];
        }

        void goOn(int n) {
            // A main without STATEMENTS has no STEP behind which its end could be reached.
            coast();
            for (int k = 0; k < n && phase == GOING && pc < code.size; k++) {
                int at = pc;
                pc++;
                steps++;
                if (code.ops[at] >= Code.ADD) {
                    workOperator(code.ops[at], code.places[at]);
                } else {
                    workStep(code.ops[at], code.args[at], code.places[at]);
                }
                coast();
            }
        }

        /** What has no STEP is done at once. */
        private void coast() {
            for (int k = 0; k < LONGEST && phase == GOING && isAtOnce(); k++) {
                int at = pc;
                pc++;
                workAtOnce(code.ops[at], code.args[at], code.places[at]);
            }
        }

        private boolean isAtOnce() {
            return pc < code.size && code.ops[pc] < Code.STATEMENT;
        }

        private void workAtOnce(int op, int arg, int place) {
            switch (op) {
                case Code.PUSH:
                    push(arg);
                    break;
                case Code.LOAD:
                    push(frames.variableAt(frames.top(), arg));
                    break;
                case Code.STORE:
                    frames.setVariable(arg, pop());
                    break;
                case Code.SELF:
                    push(frames.self[frames.top()]);
                    break;
                case Code.PUT:
                    putField(arg, place);
                    break;
                case Code.POP:
                    pop();
                    break;
                case Code.JUMP:
                    pc = arg;
                    break;
                case Code.JUMP_ZERO:
                    pc = pop() == 0 ? arg : pc;
                    break;
                case Code.SAY:
                    sayNumber(pop());
                    break;
                default:
                    giveBack(pop());
                    break;
            }
        }

        private void workStep(int op, int arg, int place) {
            switch (op) {
                case Code.STATEMENT:
                    frames.statement[frames.top()] = place;
                    break;
                case Code.GET:
                    getField(arg, place);
                    break;
                case Code.CALL:
                    callMethod(arg, place);
                    break;
                case Code.NEW:
                    makeObject(arg, place);
                    break;
                case Code.AS:
                    if (!isAs(peek(0), arg)) {
                        fail(CAST, place);
                    }
                    break;
                case Code.NEGATE:
                    push(-pop());
                    break;
                default:
                    break;
            }
        }

        private void workOperator(int op, int place) {
            int right = pop();
            int left = pop();
            switch (op) {
                case Code.ADD:
                    push(left + right);
                    break;
                case Code.SUBTRACT:
                    push(left - right);
                    break;
                case Code.MULTIPLY:
                    push(left * right);
                    break;
                case Code.DIVIDE:
                case Code.REST:
                    divide(op, left, right, place);
                    break;
                case Code.LESS:
                    push(left < right ? 1 : 0);
                    break;
                case Code.SAME:
                    push(left == right ? 1 : 0);
                    break;
                default:
                    push(left != right ? 1 : 0);
                    break;
            }
        }

        private void divide(int op, int left, int right, int place) {
            if (right == 0) {
                fail(ZERO, place);
            } else {
                push(op == Code.DIVIDE ? left / right : left % right);
            }
        }

        private void push(int value) {
            if (height < stack.length) {
                stack[height] = value;
                height++;
            }
        }

        private int pop() {
            if (height > 0) {
                height--;
            }
            return stack[height];
        }

        /** The value with so many above it. */
        private int peek(int under) {
            int at = height - 1 - under;
            return at >= 0 ? stack[at] : 0;
        }

        private void fail(int number, int place) {
            phase = TROUBLED;
            trouble = number;
            troublePlace = place;
            frames.close();
        }

        private void sayNumber(int value) {
            if (saidCount < KEPT) {
                saidRow[saidCount] = value;
            }
            saidCount++;
        }

        private void giveBack(int value) {
            int top = frames.top();
            frames.open = top;
            if (top == 0) {
                phase = ENDED;
                result = value;
            } else {
                pc = frames.back[top];
                push(value);
            }
        }

        private void getField(int slot, int place) {
            int o = pop();
            if (heap.has(o)) {
                push(heap.fieldAt(o, slot));
            } else {
                fail(NULL, place);
            }
        }

        private void putField(int slot, int place) {
            int value = pop();
            int o = pop();
            if (heap.has(o)) {
                heap.setField(o, slot, value);
            } else {
                fail(NULL, place);
            }
        }

        private void callMethod(int m, int place) {
            int params = program.members.params[m];
            int o = peek(params);
            if (!heap.has(o)) {
                fail(NULL, place);
                return;
            }
            if (frames.open >= calls) {
                fail(DEEP, place);
                return;
            }
            int done = program.memberNamed(heap.classOf(o), program.members.key[m], true);
            if (done == NONE) {
                return;
            }
            frames.add(done, o, pc);
            for (int i = params - 1; i >= 0; i--) {
                frames.setVariable(i, pop());
            }
            pop();
            pc = program.members.start[done];
        }

        private void makeObject(int kind, int place) {
            int c = Program.classOf(kind);
            int owners = program.names[c];
            int o = heap.make(c, owners, program.fields[c]);
            if (o == 0) {
                fail(FULL, place);
                return;
            }
            for (int i = 0; i < owners; i++) {
                heap.setOwner(o, i, ownerHere(Program.ownerIn(kind, i)));
            }
            push(o);
        }

        /** The OBJECT (or world) that an OWNER is in the CALL that is worked. */
        private int ownerHere(int owner) {
            int top = frames.top();
            int self = frames.self[top];
            if (owner == Program.WORLD || !heap.has(self)) {
                return 0;
            }
            if (owner == Program.THIS) {
                return self;
            }
            int view = program.viewOf(heap.classOf(self), program.members.home[frames.member[top]]);
            return ownerSeen(self, view, owner);
        }

        /** OWNER i of a TYPE that tells the OBJECT o by the NAMES of its own CLASS. */
        private int ownerSeen(int o, int view, int i) {
            int name = Program.ownerIn(view, i);
            return name < heap.ownersOf(o) ? heap.ownerAt(o, name) : 0;
        }

        private boolean isAs(int o, int kind) {
            if (!heap.has(o)) {
                return true;
            }
            int c = Program.classOf(kind);
            int view = program.viewOf(heap.classOf(o), c);
            boolean same = view >= 0;
            for (int i = 0; same && i < program.names[c]; i++) {
                same = ownerSeen(o, view, i) == ownerHere(Program.ownerIn(kind, i));
            }
            return same;
        }
    }

    /** Looks at the OBJECTS along their FIELDS. Rows are by OBJECT; 0 is where the ROOTS hang. */
    private static final class Walker {
        private static final int LONGEST = 1000000;

        private final Heap heap;
        private Program program;
        /** Of a spread: those come to, in order, and from where (NONE: not come to). */
        private final int[] queue;
        private int queued;
        private final int[] from;
        /** Of the heap as it is, if known is true: the NEAREST ABOVE, and the LEAKS. */
        private boolean known;
        private final int[] nearest;
        private final int[] ranks;
        private final int[] leakRow;
        private int leakTotal;

        Walker(Heap heap, Program at) {
            this.heap = heap;
            program = at;
            int length = Heap.OBJECTS + 1;
            queue = new int[length];
            from = new int[length];
            nearest = new int[length];
            ranks = new int[length];
            leakRow = new int[length];
        }

        void look(Program at) {
            program = at;
            known = false;
        }

        void forget() {
            known = false;
        }

        /** Comes to all that a WAY leads to, from one OBJECT or (0) the ROOTS, but through shut. */
        private void spread(int first, int shut) {
            queued = 0;
            Arrays.fill(from, 0, heap.count + 1, NONE);
            if (first != 0) {
                comeTo(first, 0);
            }
            for (int o = 1; o <= heap.count && first == 0; o++) {
                if (heap.ownerAt(o, 0) == 0 && o != shut) {
                    comeTo(o, 0);
                }
            }
            for (int i = 0; i < heap.count && i < queued; i++) {
                spreadFrom(queue[i], shut);
            }
        }

        private void spreadFrom(int o, int shut) {
            int fields = fieldsOf(o);
            for (int slot = 0; slot < fields; slot++) {
                int to = hop(o, slot);
                if (to != 0 && to != shut) {
                    comeTo(to, o);
                }
            }
        }

        private void comeTo(int o, int before) {
            if (from[o] == NONE && queued < queue.length) {
                from[o] = before;
                queue[queued] = o;
                queued++;
            }
        }

        private int fieldsOf(int o) {
            return program.fields[heap.classOf(o)];
        }

        /** The OBJECT that lies in a FIELD, or 0. */
        private int hop(int o, int slot) {
            return program.holdsObject(heap.classOf(o), slot) ? heap.fieldAt(o, slot) : 0;
        }

        /** How many HOPS the spread took to o. */
        private int hopsTo(int o) {
            int hops = 0;
            for (int a = from[o]; a > 0 && hops <= heap.count; a = from[a]) {
                hops++;
            }
            return hops;
        }

        int hopsBetween(int a, int b) {
            spread(a, 0);
            return from[b] == NONE ? NONE : hopsTo(b);
        }

        int nearestAbove(int o) {
            learn();
            return nearest[o];
        }

        int leakCount() {
            learn();
            return leakTotal;
        }

        int leakAt(int i) {
            learn();
            return i >= 0 && i < leakTotal ? leakRow[i] : NONE;
        }

        private void learn() {
            if (known) {
                return;
            }
            known = true;
            spread(0, 0);
            findNearest();
            leakTotal = 0;
            for (int o = 1; o <= heap.count; o++) {
                if (isLeak(o)) {
                    leakRow[leakTotal] = o;
                    leakTotal++;
                }
            }
        }

        /**
         * The WAYS that the spread went are a first guess of all that is above each OBJECT; each HOP
         * takes away from its end what is not above its beginning, till none takes anything.
         */
        private void findNearest() {
            System.arraycopy(from, 0, nearest, 0, heap.count + 1);
            nearest[0] = 0;
            ranks[0] = 0;
            for (int i = 0; i < queued; i++) {
                ranks[queue[i]] = i + 1;
            }
            boolean changed = true;
            for (int k = 0; k < LONGEST && changed; k++) {
                changed = false;
                for (int i = 0; i < queued; i++) {
                    changed = narrowFrom(queue[i]) || changed;
                }
            }
        }

        private boolean narrowFrom(int o) {
            boolean changed = false;
            int fields = fieldsOf(o);
            for (int slot = 0; slot < fields; slot++) {
                int to = hop(o, slot);
                int both = to == 0 ? 0 : aboveBoth(nearest[to], o);
                if (to != 0 && both != nearest[to]) {
                    nearest[to] = both;
                    changed = true;
                }
            }
            return changed;
        }

        /** What is above another one was come to ahead of it, so going up the ranks fall. */
        private int aboveBoth(int a, int b) {
            int one = a;
            int other = b;
            for (int k = 0; k <= 2 * heap.count && one != other; k++) {
                if (ranks[one] > ranks[other]) {
                    one = nearest[one];
                } else {
                    other = nearest[other];
                }
            }
            return one;
        }

        private boolean isLeak(int o) {
            int owner = heap.ownerAt(o, 0);
            int a = nearest[o];
            for (int k = 0; k <= heap.count && a > 0 && a != owner; k++) {
                a = nearest[a];
            }
            return owner != 0 && a == 0;
        }

        int objectPast(int o, int i) {
            learn();
            if (!isLeak(o)) {
                return NONE;
            }
            spread(0, heap.ownerAt(o, 0));
            int hops = hopsTo(o);
            if (i < 0 || i > hops) {
                return NONE;
            }
            int a = o;
            for (int k = hops; k > i; k--) {
                a = from[a];
            }
            return a;
        }
    }
}
