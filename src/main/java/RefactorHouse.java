import java.util.Arrays;

/**
 * A house for those who change programs of a small language by conditions that keep what names mean.
 *
 * <p>The public methods at the top answer the calls; behind them stand the classes that do the work, in
 * the order in which a program goes through them: Prog holds it, Reader reads it, Judge judges it, Machine
 * runs it, Change and Edits change it, Finder looks for pieces of it, History keeps its steps.
 */
public final class RefactorHouse {
    public static final int BAD = -1;
    public static final int NO = -2;
    public static final int FULL = -3;

    private static final int TAPE_BYTES = 4000;
    private static final int FILES = 4;
    private static final int FILE_BYTES = 3000;
    private static final int FILE_PLACES = 10000;
    private static final int FILE_TOKENS = 600;
    private static final int RECIPE_TOKENS = 100;
    private static final int CLASSES = 8;
    private static final int MEMBERS = 24;
    private static final int PARAMS = 8;
    private static final int NAME_BYTES = 12;
    private static final int NUMBER_BYTES = 9;
    private static final int NESTS = 20;
    private static final int STEPS = 12;
    private static final int INPUTS = 50;
    private static final int NUMBERS = 300;
    private static final int PAIRS = 1000;
    private static final int ALL_TOKENS = FILES * (FILE_TOKENS + 1) + 4;
    /** Beside the FAULTS 1 to 3: a FILE has too many bytes. */
    private static final int TOO_LONG = 9;
    /** A bound for loops that end by themselves much earlier. */
    private static final int MANY = 1000000;

    // Codes of tokens.
    private static final int NONE = 0;
    private static final int END = 1;
    private static final int WRONG = 2;
    private static final int NAME = 3;
    private static final int NUMBER = 4;
    private static final int DOLLAR = 5;
    private static final int FIRST_WORD = 10;
    private static final int W_CLASS = 10;
    private static final int W_EXTENDS = 11;
    private static final int W_STATIC = 12;
    private static final int W_INT = 13;
    private static final int W_BOOL = 14;
    private static final int W_VOID = 15;
    private static final int W_IF = 16;
    private static final int W_ELSE = 17;
    private static final int W_WHILE = 18;
    private static final int W_RETURN = 19;
    private static final int W_PRINT = 20;
    private static final int W_READ = 21;
    private static final int W_NEW = 22;
    private static final int W_THIS = 23;
    private static final int W_NULL = 24;
    private static final int W_TRUE = 25;
    private static final int W_FALSE = 26;
    private static final int LAST_WORD = 26;
    private static final int OPEN = 30;
    private static final int SHUT = 31;
    private static final int LEFT = 32;
    private static final int RIGHT = 33;
    private static final int SEMI = 34;
    private static final int COMMA = 35;
    private static final int DOT = 36;
    private static final int GETS = 37;
    private static final int SAME = 38;
    private static final int OTHER = 39;
    private static final int LESS = 40;
    private static final int LESS_OR = 41;
    private static final int MORE = 42;
    private static final int MORE_OR = 43;
    private static final int PLUS = 44;
    private static final int MINUS = 45;
    private static final int TIMES = 46;
    private static final int OVER = 47;
    private static final int REST = 48;
    private static final int NOT = 49;
    private static final int AND = 50;
    private static final int OR = 51;
    private static final int COLON = 52;
    private static final int ARROW = 53;

    /** The WORDS in the order of their codes, each in eight signs. */
    private static final String WORDS =
        "class   extends static  int     bool    void    if      else    while   return  print   read    new     this    null    true    false   ";

    // Kinds of exps beside those whose kind is the code of their only token.
    private static final int CALL = 60;
    private static final int FIELD_OF = 61;
    private static final int PAREN = 62;
    private static final int UNARY = 63;
    private static final int BINARY = 64;
    private static final int CLASS_NAME = 65;

    // Kinds of statements.
    private static final int S_BLOCK = 1;
    private static final int S_LOCAL = 2;
    private static final int S_GETS = 3;
    private static final int S_EXP = 4;
    private static final int S_IF = 5;
    private static final int S_WHILE = 6;
    private static final int S_RETURN = 7;
    private static final int S_PRINT = 8;

    // Kinds of what is told.
    private static final int D_CLASS = 0;
    private static final int D_FIELD = 1;
    private static final int D_METHOD = 2;
    private static final int D_PARAM = 3;
    private static final int D_LOCAL = 4;
    private static final int KINDS = 5;

    // Types; a class's is T_OBJECT and its number.
    private static final int T_INT = 0;
    private static final int T_BOOL = 1;
    private static final int T_NULL = 2;
    private static final int T_VOID = 3;
    private static final int T_OBJECT = 10;
    private static final int T_FAULTY = -1;
    private static final int T_UNKNOWN = -9;

    // Sorts of changes.
    private static final int RENAME = 0;
    private static final int PUT_IN_LOCAL = 1;
    private static final int TAKE_OUT_LOCAL = 2;
    private static final int TAKE_OUT_METHOD = 3;
    private static final int PUT_IN_METHOD = 4;
    private static final int SHUT_FIELD = 5;
    private static final int PULL_UP = 6;
    private static final int PUSH_DOWN = 7;
    private static final int SIGNATURE = 8;
    private static final int MOVE = 9;
    private static final int DROP = 10;
    private static final int TURN_IF = 11;

    private final byte[] tape = new byte[TAPE_BYTES];
    private int tapeSize;
    private final Reader reader = new Reader();
    private final Judge judge = new Judge();
    private final Machine machine = new Machine();
    private final Edits edits = new Edits();
    private final Change change = new Change(edits);
    private final Finder finder = new Finder();
    private final History history = new History();
    private Prog now = new Prog(FILES, FILE_BYTES, ALL_TOKENS);
    /** The place of work for every other program: one that is loaded, changed, or gone back to. */
    private Prog spare = new Prog(FILES, FILE_BYTES, ALL_TOKENS);
    private int place = NO;
    private boolean sound;
    private final int[] inputs = new int[INPUTS];
    private int inputCount;
    private boolean hasRun;
    private final int[] lastRun = new int[Machine.TOLD];
    private final int[] lastNumbers = new int[NUMBERS];
    private final int[] twinInputs = new int[8];
    private final int[] twinNumbers = new int[NUMBERS];

    public RefactorHouse() {
    }

    // ---- the tape, files

    public int feed(int a, int b, int c, int d, int e) {
        if (tapeSize + 20 > TAPE_BYTES) {
            return FULL;
        }
        feedOne(a);
        feedOne(b);
        feedOne(c);
        feedOne(d);
        feedOne(e);
        return tapeSize;
    }

    private void feedOne(int v) {
        for (int shift = 24; shift >= 0 && tapeSize < TAPE_BYTES; shift -= 8) {
            tape[tapeSize] = (byte) (v >>> shift);
            tapeSize++;
        }
    }

    public int cut(int n) {
        if (n < 0 || n > tapeSize) {
            return BAD;
        }
        tapeSize -= n;
        return tapeSize;
    }

    public int load(int f) {
        if (f < 0 || f >= FILES) {
            return BAD;
        }
        int bytes = tapeSize;
        tapeSize = 0;
        place = NO;
        if (bytes > FILE_BYTES) {
            return FULL;
        }
        spare.copyTexts(now);
        System.arraycopy(tape, 0, spare.text[f], 0, bytes);
        spare.size[f] = bytes;
        int fault = reader.readProgram(spare, f, CLASSES - now.classesBeside(f));
        if (fault != 0) {
            place = reader.faultPlace;
            return -10 - fault;
        }
        adopt();
        history.forget();
        hasRun = false;
        return now.tokensOf(f);
    }

    /** The spare program becomes the one of the house: what was told of the old one is no more. */
    private void adopt() {
        Prog old = now;
        now = spare;
        spare = old;
        sound = false;
        finder.forget();
        lastRun[Machine.FAILED_AT] = NO;
    }

    public int place() {
        return place;
    }

    public int size(int f) {
        return f < 0 || f >= FILES ? BAD : now.size[f];
    }

    public int octet(int f, int i) {
        if (f < 0 || f >= FILES || i < 0 || i >= now.size[f]) {
            return BAD;
        }
        return now.text[f][i] & 255;
    }

    public int token(int place, int what) {
        if (what < 0 || what > 1) {
            return BAD;
        }
        int t = now.tokenAt(place);
        if (t < 0) {
            return NO;
        }
        return what == 0 ? now.length[t] : sortOf(now.code[t]);
    }

    private static int sortOf(int code) {
        if (code == NAME) {
            return 1;
        }
        if (code == NUMBER) {
            return 2;
        }
        return code <= LAST_WORD ? 3 : 4;
    }

    // ---- meaning

    public int judge() {
        judged();
        place = now.errorPlace;
        return now.error;
    }

    /** Whether the program has no ERRORS. */
    private boolean judged() {
        if (!now.judged) {
            judge.look(now);
        }
        return now.error == 0;
    }

    public int means(int place, int what) {
        if (what < 0 || what > 1) {
            return BAD;
        }
        if (!judged()) {
            return NO;
        }
        Decl d = now.meantAt(place);
        if (d == null) {
            return NO;
        }
        return what == 0 ? now.at[d.tok] : d.kind;
    }

    public int type(int from, int to) {
        if (!judged()) {
            return NO;
        }
        Exp e = now.expAt(from, to);
        return e == null ? NO : e.type;
    }

    public int count(int what) {
        if (what < 0 || what >= KINDS) {
            return BAD;
        }
        return judged() ? now.countOf(what) : NO;
    }

    public int told(int what, int k) {
        if (what < 0 || what >= KINDS) {
            return BAD;
        }
        if (!judged()) {
            return NO;
        }
        Decl d = now.declOf(what, k);
        return d == null ? BAD : now.at[d.tok];
    }

    public int uses(int place) {
        Decl d = judged() ? now.toldAt(place) : null;
        return d == null ? NO : now.usesOf(d);
    }

    public int use(int place, int i) {
        Decl d = judged() ? now.toldAt(place) : null;
        if (d == null) {
            return NO;
        }
        int t = now.useOf(d, i);
        return t < 0 ? BAD : now.at[t];
    }

    public int family(int place) {
        Decl d = judged() ? now.toldAt(place) : null;
        if (d == null || d.kind != D_METHOD) {
            return NO;
        }
        return now.familySize(d);
    }

    // ---- runs

    public int input(int v) {
        if (inputCount >= INPUTS) {
            return FULL;
        }
        inputs[inputCount] = v;
        inputCount++;
        return inputCount;
    }

    public int drain() {
        int n = inputCount;
        inputCount = 0;
        return n;
    }

    public int run(int which) {
        if (which < 0 || which > 1) {
            return BAD;
        }
        if (!judged() || which == 1 && !recall()) {
            return NO;
        }
        int fail = machine.perform(which == 0 ? now : spare, inputs, inputCount);
        hasRun = true;
        System.arraycopy(machine.ran, 0, lastRun, 0, Machine.TOLD);
        System.arraycopy(machine.numbers, 0, lastNumbers, 0, NUMBERS);
        return fail;
    }

    /** The program ahead of the latest step that is not undone becomes the spare one, without ERRORS. */
    private boolean recall() {
        if (history.done == 0) {
            return false;
        }
        history.bring(history.done - 1, spare);
        if (reader.readProgram(spare, 0, CLASSES) != 0) {
            return false;
        }
        judge.look(spare);
        return spare.error == 0;
    }

    public int ran(int what) {
        if (what < 0 || what >= Machine.TOLD) {
            return BAD;
        }
        return hasRun ? lastRun[what] : NO;
    }

    public int number(int i) {
        if (!hasRun || i < 0 || i >= lastRun[Machine.PRINTED] || i >= NUMBERS) {
            return 0;
        }
        return lastNumbers[i];
    }

    public int twin(int n, int seed) {
        if (n < 1 || n > 20) {
            return BAD;
        }
        if (!judged() || !recall()) {
            return NO;
        }
        int next = seed;
        int same = 0;
        while (same < n) {
            for (int i = 0; i < twinInputs.length; i++) {
                next = next * 1103515245 + 12345;
                twinInputs[i] = ((next >>> 16) & 32767) % 21 - 10;
            }
            if (!twinsAgree()) {
                return same;
            }
            same++;
        }
        return same;
    }

    private boolean twinsAgree() {
        int fail = machine.perform(now, twinInputs, twinInputs.length);
        int told = machine.ran[Machine.PRINTED];
        System.arraycopy(machine.numbers, 0, twinNumbers, 0, NUMBERS);
        if (machine.perform(spare, twinInputs, twinInputs.length) != fail
            || machine.ran[Machine.PRINTED] != told) {
            return false;
        }
        for (int i = 0; i < told && i < NUMBERS; i++) {
            if (twinNumbers[i] != machine.numbers[i]) {
                return false;
            }
        }
        return true;
    }

    // ---- changes

    public int ask(int sort, int a, int b) {
        if (sort < RENAME || sort > TURN_IF) {
            return BAD;
        }
        if (!judged()) {
            return NO;
        }
        int bytes = tapeSize;
        tapeSize = 0;
        change.open(now, tape, bytes);
        int broken = change.conditions(sort, a, b);
        if (broken == 0) {
            broken = change.soundness(reader, judge, spare);
        }
        sound = broken == 0;
        place = sound ? NO : change.where;
        return broken;
    }

    public int edits() {
        return sound ? edits.count : 0;
    }

    public int edit(int i, int what) {
        if (!sound || i < 0 || i >= edits.count || what < 0) {
            return BAD;
        }
        if (what == 0) {
            return edits.place[i];
        }
        if (what == 1) {
            return edits.gone[i];
        }
        if (what == 2) {
            return edits.length[i];
        }
        return what - 3 < edits.length[i] ? edits.byteOf(i, what - 3) : BAD;
    }

    public int apply() {
        if (!sound) {
            return NO;
        }
        edits.make(spare);
        if (reader.readProgram(spare, 0, CLASSES) != 0) {
            return NO;
        }
        history.step(now, spare);
        adopt();
        return history.done;
    }

    public int undo() {
        return history.done > 0 ? goTo(history.done - 1) : NO;
    }

    public int redo() {
        return history.undone > 0 ? goTo(history.done + 1) : NO;
    }

    /** The program becomes that behind so many steps. */
    private int goTo(int steps) {
        history.bring(steps, spare);
        if (reader.readProgram(spare, 0, CLASSES) != 0) {
            return NO;
        }
        history.stand(steps);
        adopt();
        return steps;
    }

    // ---- recipes, alike pieces

    public int recipe() {
        if (!judged()) {
            return NO;
        }
        int bytes = tapeSize;
        tapeSize = 0;
        place = NO;
        int fault = finder.learn(reader, now, tape, bytes);
        if (fault != 0) {
            place = finder.faultPlace;
            return -10 - fault;
        }
        return finder.search();
    }

    public int found(int i, int what) {
        if (what < 0 || what > 1) {
            return BAD;
        }
        Exp e = finder.foundExp(i);
        if (e == null) {
            return BAD;
        }
        return now.at[what == 0 ? e.first : e.last];
    }

    public int put() {
        if (!judged() || !finder.learned) {
            return NO;
        }
        if (finder.foundCount == 0) {
            sound = false;
            place = NO;
            return 1;
        }
        change.open(now, tape, 0);
        finder.tell(edits);
        int broken = change.soundness(reader, judge, spare);
        sound = broken == 0;
        place = sound ? NO : change.where;
        return broken;
    }

    public int alike(int n) {
        if (n < 5 || n > 100) {
            return BAD;
        }
        return judged() ? finder.pairUp(now, n) : NO;
    }

    public int pair(int i, int which) {
        if (which < 0 || which > 1 || i < 0 || i >= finder.pairCount) {
            return BAD;
        }
        return now.at[which == 0 ? finder.pairFirst[i] : finder.pairSecond[i]];
    }

    // ---- signs

    private static boolean isLetter(int b) {
        return b >= 'a' && b <= 'z' || b >= 'A' && b <= 'Z';
    }

    private static boolean isDigit(int b) {
        return b >= '0' && b <= '9';
    }

    private static boolean isLetterOrDigit(int b) {
        return b >= 'a' && b <= 'z' || b >= 'A' && b <= 'Z' || b >= '0' && b <= '9';
    }

    /** The code of the WORD that so many bytes from i on are, or NAME. */
    private static int wordOrName(byte[] text, int i, int n) {
        for (int w = FIRST_WORD; w <= LAST_WORD && n <= 7; w++) {
            int at = (w - FIRST_WORD) * 8;
            int k = 0;
            while (k < n && WORDS.charAt(at + k) == text[i + k]) {
                k++;
            }
            if (k == n && WORDS.charAt(at + n) == ' ') {
                return w;
            }
        }
        return NAME;
    }

    /** An exp; its parts stand right ahead of it, from number lo on, each behind its own parts. */
    private static final class Exp {
        int index;
        int lo;
        int kind;
        int first;
        int last;
        /** The token that makes it: its NAME, NUMBER, WORD or operator. */
        int tok;
        /** A NUMBER's value, or the code of an operator, or the number of the letter behind $. */
        int value;
        int type;
        int args;
        Exp left;
        Exp right;
        Exp arg;
        Exp next;
        /** The && or || whose right side begins here. */
        Exp guard;
        Decl means;
        Stat stat;
        Decl member;
        /** Whether it is all that stands in front of an =. */
        boolean isTarget;

        void reset(int number, int sort) {
            index = number;
            lo = number;
            kind = sort;
            value = 0;
            type = T_FAULTY;
            args = 0;
            right = null;
            arg = null;
            next = null;
            guard = null;
            means = null;
            isTarget = false;
        }
    }

    /** A statement. */
    private static final class Stat {
        int index;
        int kind;
        int first;
        int last;
        boolean inBlock;
        boolean canEnd;
        Stat up;
        /** The first of a block, or what an if or while does. */
        Stat sub;
        Stat otherwise;
        Stat next;
        Exp exp;
        /** What stands behind the =. */
        Exp value;
        Decl local;
        Decl member;

        void reset(int number, Stat around) {
            index = number;
            up = around;
            kind = 0;
            inBlock = false;
            canEnd = true;
            sub = null;
            otherwise = null;
            next = null;
            exp = null;
            value = null;
            local = null;
        }
    }

    /** A class, field, method, param or local. */
    private static final class Decl {
        int index;
        int kind;
        /** Which one of its kind it is. */
        int number;
        int tok;
        /** The token of its type; of a class that of the NAME behind extends, or -1. */
        int typeTok;
        int type;
        int first;
        int last;
        boolean isStatic;
        /** A member's class; a param's or local's member. */
        Decl owner;
        Decl above;
        /** A class's first member, and a member's next one. */
        Decl sub;
        Decl next;
        Exp exp;
        /** A method's block, or the S of a local. */
        Stat stat;
        int params;
        /** Where a run keeps its value, and of how many values a method or object has need. */
        int slot;
        int slots;
        /** The uppermost method of its FAMILY. */
        Decl family;

        void reset(int at, int sort, int name) {
            index = at;
            kind = sort;
            tok = name;
            number = 0;
            typeTok = -1;
            type = T_UNKNOWN;
            first = name;
            last = name;
            isStatic = false;
            owner = null;
            above = null;
            sub = null;
            next = null;
            exp = null;
            stat = null;
            params = 0;
            slot = 0;
            slots = 0;
            family = null;
        }

        boolean isMember() {
            return kind == D_FIELD || kind == D_METHOD;
        }

        boolean isHeirOf(Decl c) {
            Decl a = above;
            for (int n = 0; n < CLASSES && a != null; n++) {
                if (a == c) {
                    return true;
                }
                a = a.above;
            }
            return false;
        }
    }

    /** A program, or a RECIPE: its bytes, its tokens, and what was read of them. */
    private static final class Prog {
        final byte[][] text;
        final int[] size;
        final int[] at;
        final int[] length;
        final int[] code;
        /** The same number for tokens of the same bytes. */
        final int[] sym;
        final Decl[] means;
        int tokens;
        final Exp[] exps;
        int expCount;
        final Stat[] stats;
        int statCount;
        final Decl[] decls;
        int declCount;
        final Decl[] classes = new Decl[CLASSES];
        int classCount;
        boolean judged;
        int error;
        int errorPlace = NO;

        Prog(int files, int bytes, int most) {
            text = new byte[files][bytes];
            size = new int[files];
            at = new int[most];
            length = new int[most];
            code = new int[most];
            sym = new int[most];
            means = new Decl[most];
            exps = new Exp[most];
            stats = new Stat[most];
            decls = new Decl[most];
        }

        void clear() {
            tokens = 0;
            expCount = 0;
            statCount = 0;
            declCount = 0;
            classCount = 0;
            judged = false;
            error = 0;
            errorPlace = NO;
        }

        void copyTexts(Prog from) {
            for (int f = 0; f < FILES; f++) {
                System.arraycopy(from.text[f], 0, text[f], 0, from.size[f]);
                size[f] = from.size[f];
            }
        }

        int codeAt(int t) {
            return t >= 0 && t < tokens ? code[t] : NONE;
        }

        int endOf(int t) {
            return at[t] + length[t];
        }

        /** The byte at a PLACE, or -1. */
        int byteAt(int place) {
            int f = place / FILE_PLACES;
            int i = place % FILE_PLACES;
            return place < 0 || f >= size.length || i >= size[f] ? -1 : text[f][i] & 255;
        }

        int tokenAt(int place) {
            int low = 0;
            int high = tokens - 1;
            for (int n = 0; n < 40 && low <= high; n++) {
                int mid = (low + high) / 2;
                if (at[mid] == place) {
                    return mid;
                }
                if (at[mid] < place) {
                    low = mid + 1;
                } else {
                    high = mid - 1;
                }
            }
            return -1;
        }

        int tokensOf(int f) {
            int n = 0;
            for (int t = 0; t < tokens; t++) {
                if (at[t] / FILE_PLACES == f) {
                    n++;
                }
            }
            return n;
        }

        /** How many classes the other FILES have. */
        int classesBeside(int f) {
            int n = 0;
            for (int c = 0; c < classCount; c++) {
                if (at[classes[c].tok] / FILE_PLACES != f) {
                    n++;
                }
            }
            return n;
        }

        boolean isText(int t, byte[] name, int n) {
            if (length[t] != n) {
                return false;
            }
            for (int k = 0; k < n; k++) {
                if (byteAt(at[t] + k) != (name[k] & 255)) {
                    return false;
                }
            }
            return true;
        }

        boolean isTextOf(int t, Prog other, int u) {
            if (code[t] != other.code[u] || length[t] != other.length[u]) {
                return false;
            }
            for (int k = 0; k < length[t]; k++) {
                if (byteAt(at[t] + k) != other.byteAt(other.at[u] + k)) {
                    return false;
                }
            }
            return true;
        }

        // What is told, and what means it.

        Decl meantAt(int place) {
            int t = tokenAt(place);
            return t >= 0 && code[t] == NAME ? means[t] : null;
        }

        Decl toldAt(int place) {
            Decl d = meantAt(place);
            return d != null && at[d.tok] == place ? d : null;
        }

        int countOf(int kind) {
            int n = 0;
            for (int i = 0; i < declCount; i++) {
                if (decls[i].kind == kind) {
                    n++;
                }
            }
            return n;
        }

        Decl declOf(int kind, int k) {
            for (int i = 0; i < declCount; i++) {
                if (decls[i].kind == kind && decls[i].number == k) {
                    return decls[i];
                }
            }
            return null;
        }

        boolean isMeant(Decl d, int t) {
            return t >= 0 && t < tokens && code[t] == NAME && means[t] == d;
        }

        int usesOf(Decl d) {
            int n = 0;
            for (int t = 0; t < tokens; t++) {
                if (isMeant(d, t)) {
                    n++;
                }
            }
            return n;
        }

        /** The token that is the i-th NAME to mean it, or -1. */
        int useOf(Decl d, int i) {
            int n = 0;
            for (int t = 0; t < tokens; t++) {
                if (isMeant(d, t)) {
                    if (n == i) {
                        return t;
                    }
                    n++;
                }
            }
            return -1;
        }

        /** The first of the tokens from one to another that means it, or -1. */
        int useWithin(Decl d, int from, int to) {
            for (int t = from; t <= to; t++) {
                if (isMeant(d, t)) {
                    return t;
                }
            }
            return -1;
        }

        int familySize(Decl m) {
            int n = 0;
            for (int i = 0; i < declCount; i++) {
                if (decls[i].kind == D_METHOD && decls[i].family == m.family) {
                    n++;
                }
            }
            return n;
        }

        boolean isFamily(Decl d, Decl m) {
            return d == m || d != null && d.kind == D_METHOD && m.kind == D_METHOD && d.family == m.family;
        }

        Decl param(Decl m, int i) {
            int k = m.index + 1 + i;
            return i >= 0 && i < m.params && k < declCount ? decls[k] : null;
        }

        /** The class in which a token stands, or null. */
        Decl classAround(int t) {
            for (int c = 0; c < classCount; c++) {
                if (classes[c].first <= t && t <= classes[c].last) {
                    return classes[c];
                }
            }
            return null;
        }

        Decl classNamed(byte[] name, int n) {
            for (int c = 0; c < classCount; c++) {
                if (isText(classes[c].tok, name, n)) {
                    return classes[c];
                }
            }
            return null;
        }

        /** The outermost exp from the token at a PLACE to that at another one, or null. */
        Exp expAt(int from, int to) {
            int first = tokenAt(from);
            int last = tokenAt(to);
            if (first < 0 || last < first) {
                return null;
            }
            for (int i = expCount - 1; i >= 0; i--) {
                Exp e = exps[i];
                if (e.first == first && e.last == last && e.kind != CLASS_NAME) {
                    return e;
                }
            }
            return null;
        }

        // Types.

        Decl classOf(int type) {
            int c = type - T_OBJECT;
            return c >= 0 && c < classCount ? classes[c] : null;
        }

        boolean fits(int type, int wanted) {
            int c = type - T_OBJECT;
            int w = wanted - T_OBJECT;
            if (type == wanted || w < 0 || w >= classCount) {
                return type == wanted;
            }
            if (c < 0 || c >= classCount) {
                return type == T_NULL;
            }
            for (Decl a = classes[c]; a != null; a = a.above) {
                if (a == classes[w]) {
                    return true;
                }
            }
            return false;
        }

        /** Whether two methods have the same NAME and params' types; a type that is no class is like none. */
        boolean sameTold(Decl m, Decl n) {
            if (sym[m.tok] != sym[n.tok] || m.params != n.params) {
                return false;
            }
            for (int i = 1; i <= m.params; i++) {
                if (m.index + i >= declCount || n.index + i >= declCount) {
                    return false;
                }
                int type = decls[m.index + i].type;
                if (type != decls[n.index + i].type || type == T_UNKNOWN) {
                    return false;
                }
            }
            return true;
        }

        boolean overrides(Decl low, Decl high) {
            return !low.isStatic && !high.isStatic && low.owner != null && low.owner.isHeirOf(high.owner)
                && sameTold(low, high);
        }

        /** Whether an exp has no calls, new, read, fields, / and %. */
        boolean isCalm(Exp e) {
            for (int i = e.lo; i <= e.index && i < expCount; i++) {
                Exp x = exps[i];
                boolean division = x.kind == BINARY && (x.value == OVER || x.value == REST);
                boolean field = x.means != null && x.means.kind == D_FIELD;
                if (division || field || x.kind == CALL || x.kind == W_NEW || x.kind == W_READ) {
                    return false;
                }
            }
            return true;
        }
    }

    /** Reads FILES and RECIPES: their tokens first, then what these make, up to the first FAULT. */
    private static final class Reader {
        /** Tokens by their bytes, to give those of the same bytes the same number. */
        private final int[] buckets = new int[4096];
        /** Left sides and operators that wait for their right sides, of all exps that are being read. */
        private final Exp[] waiting = new Exp[200];
        private final int[] operators = new int[200];
        private int waits;
        private Prog p;
        private int begin;
        private int at;
        /** What is at hand behind the last token: END, or WRONG where none begins. */
        private int tail;
        private int tailPlace;
        private int limit;
        private int code;
        private boolean inRecipe;
        private boolean mayType;
        private Decl member;
        private Stat stat;
        int fault;
        int faultPlace;
        /** The exp of a RECIPE that is looked for. */
        Exp pattern;

        /** Begins anew: what was read of the program is no more. */
        private void start(Prog prog) {
            p = prog;
            p.clear();
            Arrays.fill(buckets, 0);
            fault = 0;
        }

        /** Reads all FILES; 0 or the FAULT. FILE f has room for so many classes. */
        int readProgram(Prog prog, int f, int room) {
            start(prog);
            inRecipe = false;
            mayType = false;
            for (int k = 0; k < FILES && fault == 0; k++) {
                if (p.size[k] > FILE_BYTES) {
                    fault = TOO_LONG;
                    faultPlace = k * FILE_PLACES;
                    return fault;
                }
                open(k, FILE_TOKENS);
                for (int n = 0; n < MANY && peek() == W_CLASS; n++) {
                    readClass(k == f && n >= room);
                }
                want(peek() == END);
            }
            return fault;
        }

        /** Reads a RECIPE, of which the program has the bytes; 0 or its FAULT of 1 to 3. */
        int readPattern(Prog prog) {
            start(prog);
            inRecipe = true;
            mayType = true;
            open(0, RECIPE_TOKENS);
            pattern = exp(0);
            want(peek() == ARROW);
            mayType = false;
            exp(0);
            want(peek() == END);
            return fault;
        }

        private void open(int f, int most) {
            fault = 0;
            faultPlace = NO;
            waits = 0;
            member = null;
            stat = null;
            limit = most;
            begin = p.tokens;
            at = begin;
            scan(f);
        }

        // Tokens.

        private void scan(int f) {
            byte[] text = p.text[f];
            int size = Math.min(p.size[f], text.length);
            tail = END;
            int i = skip(text, 0, size);
            for (int n = 0; n <= limit && i < size && tail == END; n++) {
                int bytes = measure(text, i, size);
                if (bytes == 0 || p.tokens >= p.at.length) {
                    tail = WRONG;
                } else {
                    int t = p.tokens;
                    p.at[t] = f * FILE_PLACES + i;
                    p.length[t] = bytes;
                    p.code[t] = code;
                    p.means[t] = null;
                    p.tokens = t + 1;
                    p.sym[t] = code == NAME || code == NUMBER || code == DOLLAR ? numberOf(t) : -code;
                    i = skip(text, i + bytes, size);
                }
            }
            tailPlace = f * FILE_PLACES + i;
        }

        private static int skip(byte[] text, int from, int size) {
            int i = from;
            boolean remark = false;
            while (i < size) {
                int b = text[i];
                if (remark) {
                    remark = b != 10;
                } else if (b == '/' && i + 1 < size && text[i + 1] == '/') {
                    remark = true;
                } else if (b != 9 && b != 10 && b != 13 && b != 32) {
                    return i;
                }
                i++;
            }
            return i;
        }

        /** How many bytes the token has that begins at i, whose code is told in code; 0 if none does. */
        private int measure(byte[] text, int i, int size) {
            int n = 1;
            if (isLetter(text[i])) {
                while (i + n < size && isLetterOrDigit(text[i + n])) {
                    n++;
                }
                code = wordOrName(text, i, n);
                return n > NAME_BYTES ? 0 : n;
            }
            if (isDigit(text[i])) {
                while (i + n < size && isDigit(text[i + n])) {
                    n++;
                }
                code = NUMBER;
                return n > NUMBER_BYTES ? 0 : n;
            }
            int second = i + 1 < size ? text[i + 1] : 0;
            if (inRecipe && text[i] == '$') {
                code = DOLLAR;
                return second >= 'a' && second <= 'z' ? 2 : 0;
            }
            code = signOfTwo(text[i], second);
            if (code != NONE) {
                return 2;
            }
            code = signOfOne(text[i]);
            return code == NONE ? 0 : 1;
        }

        private int signOfTwo(int a, int b) {
            if (b == '=') {
                switch (a) {
                    case '=': return SAME;
                    case '!': return OTHER;
                    case '<': return LESS_OR;
                    case '>': return MORE_OR;
                    default: return NONE;
                }
            }
            if (a == '&' && b == '&') {
                return AND;
            }
            if (a == '|' && b == '|') {
                return OR;
            }
            return inRecipe && a == '-' && b == '>' ? ARROW : NONE;
        }

        private int signOfOne(int a) {
            switch (a) {
                case '{': return OPEN;
                case '}': return SHUT;
                case '(': return LEFT;
                case ')': return RIGHT;
                case ';': return SEMI;
                case ',': return COMMA;
                case '.': return DOT;
                case '=': return GETS;
                case '<': return LESS;
                case '>': return MORE;
                case '+': return PLUS;
                case '-': return MINUS;
                case '*': return TIMES;
                case '/': return OVER;
                case '%': return REST;
                case '!': return NOT;
                case ':': return inRecipe ? COLON : NONE;
                default: return NONE;
            }
        }

        /** The first token of the same bytes. */
        private int numberOf(int t) {
            int h = 0;
            for (int k = 0; k < p.length[t]; k++) {
                h = h * 31 + p.byteAt(p.at[t] + k);
            }
            h = (h ^ (h >>> 12)) & 4095;
            for (int n = 0; n < buckets.length; n++) {
                int other = buckets[h] - 1;
                if (other < 0) {
                    buckets[h] = t + 1;
                    return t;
                }
                if (p.isTextOf(t, p, other)) {
                    return other;
                }
                h = (h + 1) & 4095;
            }
            return t;
        }

        // The token at hand. Behind a FAULT there is none any more, so that all reading ends.

        private int peek() {
            if (fault != 0) {
                return NONE;
            }
            return at < p.tokens ? p.code[at] : tail;
        }

        private void fail(int number) {
            if (fault == 0) {
                fault = number;
                faultPlace = at < p.tokens ? p.at[at] : tailPlace;
            }
        }

        /** Goes on behind the token at hand if it fits there. */
        private void want(boolean fits) {
            boolean isToken = at < p.tokens;
            if (!isToken && tail == WRONG) {
                fail(1);
            } else if (!fits) {
                fail(2);
            } else if (isToken && at - begin >= limit) {
                fail(3);
            } else if (isToken && fault == 0) {
                at++;
            }
        }

        private void wantName(boolean tooMuch) {
            if (peek() == NAME && tooMuch) {
                fail(3);
            }
            want(peek() == NAME);
        }

        private boolean isTypeAtHand() {
            int c = peek();
            return c == W_INT || c == W_BOOL || c == NAME;
        }

        /** What is at hand now stands within so many others. */
        private void enter(int depth) {
            int c = peek();
            if (depth > NESTS && c != RIGHT && c != SHUT) {
                fail(c == WRONG ? 1 : 3);
            }
        }

        // Classes and members.

        private Decl newDecl(int kind, int tok) {
            int i = Math.min(p.declCount, p.decls.length - 1);
            if (p.decls[i] == null) {
                p.decls[i] = new Decl();
            }
            p.decls[i].reset(i, kind, tok);
            p.declCount = i + 1;
            return p.decls[i];
        }

        private void readClass(boolean tooMuch) {
            int first = at;
            want(true);
            int tok = at;
            wantName(tooMuch);
            if (fault != 0 || p.classCount >= CLASSES) {
                return;
            }
            Decl c = newDecl(D_CLASS, tok);
            c.number = p.classCount;
            p.classes[p.classCount] = c;
            p.classCount++;
            if (peek() == W_EXTENDS) {
                want(true);
                c.typeTok = at;
                wantName(false);
            }
            want(peek() == OPEN);
            Decl last = null;
            for (int n = 0; n < MANY && fault == 0 && peek() != SHUT; n++) {
                Decl m = readMember(c, n >= MEMBERS);
                if (last == null) {
                    c.sub = m;
                } else {
                    last.next = m;
                }
                last = m;
            }
            want(peek() == SHUT);
            c.first = first;
            c.last = at - 1;
        }

        private Decl readMember(Decl owner, boolean tooMuch) {
            int first = at;
            boolean isStatic = peek() == W_STATIC;
            if (isStatic) {
                want(true);
            }
            int typeTok = at;
            boolean isVoid = peek() == W_VOID;
            want(isVoid || isTypeAtHand());
            int tok = at;
            wantName(tooMuch);
            boolean isMethod = isVoid || peek() == LEFT;
            Decl m = newDecl(isMethod ? D_METHOD : D_FIELD, tok);
            m.owner = owner;
            m.typeTok = typeTok;
            m.isStatic = isStatic;
            member = m;
            if (isMethod) {
                readParams(m);
                m.stat = newStat(null);
                block(m.stat, 0);
                m.stat.last = at - 1;
            } else {
                if (peek() == GETS) {
                    want(true);
                    m.exp = exp(0);
                }
                want(peek() == SEMI);
            }
            m.first = first;
            m.last = at - 1;
            member = null;
            return m;
        }

        private void readParams(Decl m) {
            want(peek() == LEFT);
            boolean more = peek() != RIGHT;
            for (int n = 0; n < MANY && more && fault == 0; n++) {
                int typeTok = at;
                want(isTypeAtHand());
                int tok = at;
                wantName(n >= PARAMS);
                Decl d = newDecl(D_PARAM, tok);
                d.owner = m;
                d.typeTok = typeTok;
                m.params++;
                more = peek() == COMMA;
                if (more) {
                    want(true);
                }
            }
            want(peek() == RIGHT);
        }

        // Statements.

        private Stat newStat(Stat up) {
            int i = Math.min(p.statCount, p.stats.length - 1);
            if (p.stats[i] == null) {
                p.stats[i] = new Stat();
            }
            Stat s = p.stats[i];
            s.reset(i, up);
            s.first = at;
            s.member = member;
            p.statCount = i + 1;
            return s;
        }

        private Stat statement(int depth, Stat up) {
            Stat s = newStat(up);
            Stat around = stat;
            stat = s;
            switch (peek()) {
                case OPEN:
                    block(s, depth);
                    break;
                case W_IF:
                case W_WHILE:
                    branch(s, depth);
                    break;
                case W_RETURN:
                    s.kind = S_RETURN;
                    want(true);
                    s.exp = peek() == SEMI ? null : exp(depth);
                    want(peek() == SEMI);
                    break;
                case W_PRINT:
                    s.kind = S_PRINT;
                    want(true);
                    s.exp = exp(depth);
                    want(peek() == SEMI);
                    break;
                default:
                    readFront(s);
                    s.exp = exp(depth);
                    if (s.kind == S_EXP && s.exp != null && peek() == GETS) {
                        s.kind = S_GETS;
                        s.exp.isTarget = true;
                        want(true);
                        s.value = exp(depth);
                    }
                    want(peek() == SEMI);
                    break;
            }
            s.last = at - 1;
            stat = around;
            return s;
        }

        /** What stands in front of the exp of a local; nothing in front of an exp alone. */
        private void readFront(Stat s) {
            int c = peek();
            boolean isName = c == NAME && at + 1 < p.tokens && p.code[at + 1] == NAME;
            if (c != W_INT && c != W_BOOL && !isName) {
                s.kind = S_EXP;
                return;
            }
            s.kind = S_LOCAL;
            int typeTok = at;
            want(true);
            s.local = newDecl(D_LOCAL, at);
            s.local.owner = member;
            s.local.typeTok = typeTok;
            s.local.stat = s;
            wantName(false);
            want(peek() == GETS);
        }

        private void block(Stat s, int depth) {
            s.kind = S_BLOCK;
            want(peek() == OPEN);
            enter(depth + 1);
            Stat last = null;
            for (int n = 0; n < MANY && fault == 0 && peek() != SHUT; n++) {
                Stat inner = statement(depth + 1, s);
                inner.inBlock = true;
                if (last == null) {
                    s.sub = inner;
                } else {
                    last.next = inner;
                }
                last = inner;
            }
            want(peek() == SHUT);
        }

        private void branch(Stat s, int depth) {
            boolean isIf = peek() == W_IF;
            s.kind = isIf ? S_IF : S_WHILE;
            want(true);
            want(peek() == LEFT);
            enter(depth + 1);
            s.exp = exp(depth + 1);
            want(peek() == RIGHT);
            enter(depth + 1);
            s.sub = fault == 0 ? statement(depth + 1, s) : null;
            if (isIf && peek() == W_ELSE) {
                want(true);
                enter(depth + 1);
                s.otherwise = fault == 0 ? statement(depth + 1, s) : null;
            }
        }

        // Exps. Every exp is made behind its parts, so that a program's exps need no recursion any more.

        private static int strength(int c) {
            switch (c) {
                case OR: return 1;
                case AND: return 2;
                case SAME: case OTHER: return 3;
                case LESS: case LESS_OR: case MORE: case MORE_OR: return 4;
                case PLUS: case MINUS: return 5;
                case TIMES: case OVER: case REST: return 6;
                default: return 0;
            }
        }

        private Exp exp(int depth) {
            int ground = waits;
            Exp e = unary(depth);
            for (int n = 0; n < MANY && strength(peek()) > 0; n++) {
                e = joined(e, ground, strength(peek()));
                if (waits >= waiting.length) {
                    fail(3);
                    return e;
                }
                waiting[waits] = e;
                operators[waits] = at;
                waits++;
                want(true);
                e = unary(depth);
            }
            e = joined(e, ground, 0);
            waits = ground;
            return e;
        }

        /** The exp as right side of all that wait for one and are as strong, or stronger. */
        private Exp joined(Exp right, int ground, int strength) {
            Exp e = right;
            while (waits > ground && e != null && strength(p.codeAt(operators[waits - 1])) >= strength) {
                waits--;
                Exp left = waiting[waits];
                if (left == null) {
                    return null;
                }
                int op = operators[waits];
                Exp both = newExp(BINARY, left.first, op, left);
                both.last = e.last;
                both.right = e;
                both.value = p.codeAt(op);
                if (both.value == AND || both.value == OR) {
                    p.exps[e.lo].guard = both;
                }
                e = both;
            }
            return e;
        }

        private Exp newExp(int kind, int first, int tok, Exp left) {
            int i = Math.min(p.expCount, p.exps.length - 1);
            if (p.exps[i] == null) {
                p.exps[i] = new Exp();
            }
            Exp e = p.exps[i];
            e.reset(i, kind);
            e.first = first;
            e.last = at - 1;
            e.tok = tok;
            e.left = left;
            if (left != null) {
                e.lo = left.lo;
            }
            e.stat = stat;
            e.member = member;
            p.expCount = i + 1;
            return e;
        }

        private Exp unary(int depth) {
            int first = at;
            int c = peek();
            if (c != MINUS && c != NOT) {
                return operand(depth);
            }
            want(true);
            enter(depth + 1);
            Exp part = fault == 0 ? unary(depth + 1) : null;
            Exp e = newExp(UNARY, first, first, part);
            e.value = c;
            return e;
        }

        private Exp operand(int depth) {
            Exp e = simple(depth);
            for (int n = 0; n < MANY && peek() == DOT; n++) {
                want(true);
                int tok = at;
                want(peek() == NAME);
                int first = e == null ? tok : e.first;
                e = peek() == LEFT ? call(first, tok, e, depth) : newExp(FIELD_OF, first, tok, e);
            }
            return e;
        }

        private Exp simple(int depth) {
            int tok = at;
            int c = peek();
            switch (c) {
                case NUMBER: case W_TRUE: case W_FALSE: case W_NULL: case W_THIS: case W_READ:
                    want(true);
                    Exp e = newExp(c, tok, tok, null);
                    e.value = c == NUMBER ? valueOf(tok) : 0;
                    return e;
                case NAME:
                    want(true);
                    return peek() == LEFT ? call(tok, tok, null, depth) : newExp(NAME, tok, tok, null);
                case DOLLAR:
                    want(true);
                    if (mayType && peek() == COLON) {
                        want(true);
                        want(isTypeAtHand());
                    }
                    Exp any = newExp(DOLLAR, tok, tok, null);
                    any.value = p.byteAt(p.at[tok] + 1) - 'a';
                    return any;
                case W_NEW:
                    want(true);
                    int name = at;
                    want(peek() == NAME);
                    want(peek() == LEFT);
                    want(peek() == RIGHT);
                    return newExp(W_NEW, tok, name, null);
                case LEFT:
                    want(true);
                    enter(depth + 1);
                    Exp inner = fault == 0 ? exp(depth + 1) : null;
                    want(peek() == RIGHT);
                    return newExp(PAREN, tok, tok, inner);
                default:
                    want(false);
                    return null;
            }
        }

        private int valueOf(int tok) {
            int v = 0;
            for (int k = 0; k < p.length[tok]; k++) {
                v = v * 10 + p.byteAt(p.at[tok] + k) - '0';
            }
            return v;
        }

        private Exp call(int first, int tok, Exp left, int depth) {
            Exp arg = null;
            Exp last = null;
            int args = 0;
            want(peek() == LEFT);
            enter(depth + 1);
            boolean more = peek() != RIGHT;
            for (int n = 0; n < MANY && more && fault == 0; n++) {
                Exp e = exp(depth + 1);
                if (last == null) {
                    arg = e;
                } else {
                    last.next = e;
                }
                last = e;
                args++;
                more = peek() == COMMA;
                if (more) {
                    want(true);
                }
            }
            want(peek() == RIGHT);
            Exp e = newExp(CALL, first, tok, left);
            e.arg = arg;
            e.args = args;
            if (left == null && arg != null) {
                e.lo = arg.lo;
            }
            return e;
        }
    }

    /** Finds what each NAME means, the type of each exp, and the ERROR of least place. */
    private static final class Judge {
        private static final int ANY = 0;
        private static final int OF_OBJECT = 1;
        private static final int OF_CLASS = 2;

        private final Decl[] choice = new Decl[CLASSES * MEMBERS];
        private final int[] numbers = new int[KINDS];
        private Prog p;

        void look(Prog prog) {
            p = prog;
            p.judged = true;
            p.error = 0;
            p.errorPlace = NO;
            lookAtClasses();
            if (p.error == 0) {
                lookAtTypes();
                lookAtMembers();
            }
            if (p.error == 0) {
                // Parts stand ahead of what they are parts of.
                for (int i = 0; i < p.expCount; i++) {
                    Exp e = p.exps[i];
                    e.type = e.member == null ? T_FAULTY : typeOf(e);
                }
                lookAtStatements();
                lookAtTellings();
            }
            if (p.error == 0) {
                settle();
            }
        }

        private void tell(int error, int tok) {
            int place = p.at[tok];
            if (p.error == 0 || place < p.errorPlace || place == p.errorPlace && error < p.error) {
                p.error = error;
                p.errorPlace = place;
            }
        }

        private int faulty(int error, int tok) {
            tell(error, tok);
            return T_FAULTY;
        }

        // Classes.

        private Decl classMeant(int tok) {
            for (int c = 0; c < p.classCount; c++) {
                if (p.sym[p.classes[c].tok] == p.sym[tok]) {
                    return p.classes[c];
                }
            }
            return null;
        }

        private void lookAtClasses() {
            for (int i = 0; i < p.classCount; i++) {
                Decl c = p.classes[i];
                c.above = null;
                p.means[c.tok] = classMeant(c.tok);
                if (p.means[c.tok] != c) {
                    tell(1, c.tok);
                }
                if (c.typeTok >= 0) {
                    c.above = classMeant(c.typeTok);
                    p.means[c.typeTok] = c.above;
                    if (c.above == null) {
                        tell(2, c.typeTok);
                    }
                }
            }
            for (int i = 0; i < p.classCount; i++) {
                Decl c = p.classes[i];
                if (c.isHeirOf(c)) {
                    tell(2, c.typeTok);
                }
            }
        }

        // Members and types.

        private void lookAtTypes() {
            for (int i = 0; i < p.declCount; i++) {
                Decl d = p.decls[i];
                if (d.kind == D_CLASS) {
                    d.type = T_OBJECT + d.number;
                } else {
                    p.means[d.tok] = d;
                    d.type = typeTold(d.typeTok);
                    if (d.type == T_UNKNOWN) {
                        tell(4, d.typeTok);
                    }
                }
            }
        }

        private int typeTold(int tok) {
            switch (p.codeAt(tok)) {
                case W_INT: return T_INT;
                case W_BOOL: return T_BOOL;
                case W_VOID: return T_VOID;
                case NAME:
                    Decl c = classMeant(tok);
                    p.means[tok] = c;
                    return c == null ? T_UNKNOWN : T_OBJECT + c.number;
                default: return T_UNKNOWN;
            }
        }

        private void lookAtMembers() {
            for (int i = 0; i < p.declCount; i++) {
                Decl m = p.decls[i];
                if (m.isMember()) {
                    lookAtOwn(m);
                    if (m.kind == D_METHOD) {
                        lookAbove(m);
                    }
                }
            }
        }

        private void lookAtOwn(Decl m) {
            for (Decl n = m.owner.sub; n != null && n != m; n = n.next) {
                boolean again = m.kind == D_METHOD ? p.sameTold(m, n) : p.sym[m.tok] == p.sym[n.tok];
                if (n.kind == m.kind && again) {
                    tell(3, m.tok);
                }
            }
        }

        private void lookAbove(Decl m) {
            for (Decl c = m.owner.above; c != null; c = c.above) {
                for (Decl n = c.sub; n != null; n = n.next) {
                    if (n.kind == D_METHOD && p.sameTold(m, n)) {
                        boolean known = m.type != T_UNKNOWN && n.type != T_UNKNOWN;
                        if (m.isStatic || n.isStatic || known && m.type != n.type) {
                            tell(9, m.tok);
                        }
                    }
                }
            }
        }

        // Exps. What is at fault has the type T_FAULTY, and so has all in which it stands, without another ERROR.

        private int typeOf(Exp e) {
            switch (e.kind) {
                case NUMBER: case W_READ:
                    return T_INT;
                case W_TRUE: case W_FALSE:
                    return T_BOOL;
                case W_NULL:
                    return T_NULL;
                case W_THIS:
                    return e.member.isStatic ? faulty(10, e.tok) : e.member.owner.type;
                case NAME:
                    return typeOfName(e);
                case FIELD_OF:
                    return typeOfField(e);
                case CALL:
                    return typeOfCall(e);
                case W_NEW:
                    e.means = classMeant(e.tok);
                    p.means[e.tok] = e.means;
                    return e.means == null ? faulty(4, e.tok) : e.means.type;
                case PAREN:
                    return e.left == null ? T_FAULTY : e.left.type;
                case UNARY:
                    int wanted = e.value == NOT ? T_BOOL : T_INT;
                    return isWanted(e.left, wanted) ? wanted : T_FAULTY;
                case BINARY:
                    return typeOfBoth(e);
                default:
                    return T_FAULTY;
            }
        }

        private boolean isWanted(Exp e, int type) {
            if (e == null || e.type == T_FAULTY) {
                return false;
            }
            if (e.type != type) {
                tell(7, e.first);
                return false;
            }
            return true;
        }

        private int typeOfBoth(Exp e) {
            if (e.left == null || e.right == null) {
                return T_FAULTY;
            }
            if (e.value == SAME || e.value == OTHER) {
                return typeOfSame(e.left, e.right);
            }
            int wanted = e.value == AND || e.value == OR ? T_BOOL : T_INT;
            boolean left = isWanted(e.left, wanted);
            boolean right = isWanted(e.right, wanted);
            if (!left || !right) {
                return T_FAULTY;
            }
            boolean isOrder = e.value >= LESS && e.value <= MORE_OR;
            return isOrder ? T_BOOL : wanted;
        }

        private int typeOfSame(Exp left, Exp right) {
            if (left.type == T_FAULTY || right.type == T_FAULTY) {
                return T_FAULTY;
            }
            if (left.type == T_VOID) {
                return faulty(7, left.first);
            }
            boolean plain = left.type == T_INT || left.type == T_BOOL || right.type == T_INT || right.type == T_BOOL;
            boolean fit = p.fits(left.type, right.type) || p.fits(right.type, left.type);
            boolean fine = plain ? left.type == right.type : fit;
            return fine ? T_BOOL : faulty(7, right.first);
        }

        private int typeOfName(Exp e) {
            Decl d = variable(e.member, e.tok);
            if (d == null) {
                d = field(e.member.owner, e.tok, ANY);
            }
            if (d == null && p.codeAt(e.tok + 1) == DOT) {
                d = classMeant(e.tok);
                e.kind = d == null ? NAME : CLASS_NAME;
            }
            return typeOfMeant(e, d);
        }

        private int typeOfMeant(Exp e, Decl d) {
            if (d == null) {
                return faulty(6, e.tok);
            }
            e.means = d;
            p.means[e.tok] = d;
            if (e.left == null && d.isMember() && !d.isStatic && e.member.isStatic) {
                return faulty(10, e.tok);
            }
            return d.type;
        }

        /** The local or param of the NAME at a token that is known there. */
        private Decl variable(Decl member, int tok) {
            for (int i = member.index + 1; i < p.declCount && p.decls[i].owner == member; i++) {
                if (p.sym[p.decls[i].tok] == p.sym[tok] && isKnown(p.decls[i], tok)) {
                    return p.decls[i];
                }
            }
            return null;
        }

        private static boolean isKnown(Decl d, int tok) {
            if (d.kind == D_PARAM) {
                return tok > d.tok;
            }
            Stat s = d.stat;
            return s != null && s.inBlock && s.up != null && tok > s.last && tok <= s.up.last;
        }

        private static boolean suits(Decl member, int wanted) {
            return wanted == ANY || member.isStatic == (wanted == OF_CLASS);
        }

        private Decl field(Decl owner, int tok, int wanted) {
            for (Decl c = owner; c != null; c = c.above) {
                for (Decl d = c.sub; d != null; d = d.next) {
                    if (d.kind == D_FIELD && p.sym[d.tok] == p.sym[tok] && suits(d, wanted)) {
                        return d;
                    }
                }
            }
            return null;
        }

        /** The class of what stands in front of . , or null where that is at fault. */
        private Decl classInFront(Exp left) {
            if (left.kind == CLASS_NAME) {
                return left.means;
            }
            if (left.type == T_FAULTY) {
                return null;
            }
            Decl c = p.classOf(left.type);
            if (c == null) {
                tell(7, left.first);
            }
            return c;
        }

        private int typeOfField(Exp e) {
            Decl c = e.left == null ? null : classInFront(e.left);
            if (c == null) {
                return T_FAULTY;
            }
            return typeOfMeant(e, field(c, e.tok, e.left.kind == CLASS_NAME ? OF_CLASS : OF_OBJECT));
        }

        private int typeOfCall(Exp e) {
            Decl owner = e.left == null ? e.member.owner : classInFront(e.left);
            boolean argsAtFault = false;
            for (Exp a = e.arg; a != null; a = a.next) {
                argsAtFault = argsAtFault || a.type == T_FAULTY;
            }
            if (owner == null || argsAtFault) {
                return T_FAULTY;
            }
            int wanted = ANY;
            if (e.left != null) {
                wanted = e.left.kind == CLASS_NAME ? OF_CLASS : OF_OBJECT;
            }
            int count = 0;
            boolean named = false;
            for (Decl c = owner; c != null; c = c.above) {
                for (Decl m = c.sub; m != null; m = m.next) {
                    if (m.kind == D_METHOD && p.sym[m.tok] == p.sym[e.tok]) {
                        named = true;
                        if (suits(m, wanted) && takes(m, e) && count < choice.length) {
                            choice[count] = m;
                            count++;
                        }
                    }
                }
            }
            Decl m = nearest(count);
            return m == null && named ? faulty(8, e.tok) : typeOfMeant(e, m);
        }

        private boolean takes(Decl m, Exp call) {
            if (m.params != call.args) {
                return false;
            }
            int i = 0;
            for (Exp a = call.arg; a != null; a = a.next) {
                Decl d = p.param(m, i);
                if (d == null || !p.fits(a.type, d.type)) {
                    return false;
                }
                i++;
            }
            return true;
        }

        /** Of those of choice that no other one OVERRIDES the one whose params' types FIT all others' ones. */
        private Decl nearest(int count) {
            int left = 0;
            for (int i = 0; i < count; i++) {
                boolean hidden = false;
                // Heirs come ahead in choice: what OVERRIDES this one stands in front and is left.
                for (int k = 0; k < left && !hidden; k++) {
                    hidden = p.overrides(choice[k], choice[i]);
                }
                if (!hidden) {
                    choice[left] = choice[i];
                    left++;
                }
            }
            for (int i = 0; i < left; i++) {
                boolean all = true;
                for (int k = 0; k < left && all; k++) {
                    all = isCloser(choice[i], choice[k]);
                }
                if (all) {
                    return choice[i];
                }
            }
            return null;
        }

        private boolean isCloser(Decl m, Decl n) {
            for (int i = 0; i < m.params; i++) {
                Decl a = p.param(m, i);
                Decl b = p.param(n, i);
                if (a == null || b == null || !p.fits(a.type, b.type)) {
                    return false;
                }
            }
            return true;
        }

        // Statements.

        private void lookAtStatements() {
            for (int i = p.statCount - 1; i >= 0; i--) {
                Stat s = p.stats[i];
                s.canEnd = canEnd(s);
                switch (s.kind) {
                    case S_LOCAL:
                        isFitting(s.exp, s.local.type);
                        break;
                    case S_GETS:
                        lookAtGets(s.exp, s.value);
                        break;
                    case S_EXP:
                        if (isSound(s.exp) && s.exp.kind != CALL) {
                            tell(14, s.first);
                        }
                        break;
                    case S_IF:
                    case S_WHILE:
                        isWanted(s.exp, T_BOOL);
                        break;
                    case S_RETURN:
                        lookAtReturn(s);
                        break;
                    case S_PRINT:
                        if (isSound(s.exp) && s.exp.type != T_INT && s.exp.type != T_BOOL) {
                            tell(7, s.exp.first);
                        }
                        break;
                    default:
                        break;
                }
            }
        }

        private static boolean isSound(Exp e) {
            return e != null && e.type != T_FAULTY;
        }

        private void isFitting(Exp e, int type) {
            if (isSound(e) && !p.fits(e.type, type)) {
                tell(7, e.first);
            }
        }

        private void lookAtGets(Exp target, Exp value) {
            if (!isSound(target)) {
                return;
            }
            if (target.kind == NAME || target.kind == FIELD_OF) {
                isFitting(value, target.type);
            } else {
                tell(11, target.first);
            }
        }

        private void lookAtReturn(Stat s) {
            int result = s.member.type;
            if (s.exp == null) {
                if (result != T_VOID) {
                    tell(13, s.first);
                }
            } else if (result != T_VOID) {
                isFitting(s.exp, result);
            } else if (isSound(s.exp)) {
                tell(13, s.first);
            }
        }

        /** Asked from the last S on, so that those within are known ahead. */
        private static boolean canEnd(Stat s) {
            if (s.kind == S_RETURN) {
                return false;
            }
            if (s.kind == S_IF && s.sub != null && s.otherwise != null) {
                return s.sub.canEnd || s.otherwise.canEnd;
            }
            if (s.kind == S_BLOCK) {
                for (Stat inner = s.sub; inner != null; inner = inner.next) {
                    if (!inner.canEnd) {
                        return false;
                    }
                }
            }
            return true;
        }

        // What is told.

        private void lookAtTellings() {
            for (int i = 0; i < p.declCount; i++) {
                Decl d = p.decls[i];
                if (d.kind == D_FIELD) {
                    isFitting(d.exp, d.type);
                } else if (d.kind == D_METHOD) {
                    if (d.type != T_VOID && d.stat != null && d.stat.canEnd) {
                        tell(12, d.tok);
                    }
                } else if (d.kind != D_CLASS && variable(d.owner, d.tok) != null) {
                    tell(5, d.tok);
                }
            }
        }

        // Of a program without ERRORS.

        private void settle() {
            Arrays.fill(numbers, 0);
            int statics = 0;
            for (int i = 0; i < p.declCount; i++) {
                Decl d = p.decls[i];
                d.number = numbers[d.kind];
                numbers[d.kind]++;
                if (d.kind == D_CLASS) {
                    d.slots = 0;
                    for (Decl c = d; c != null; c = c.above) {
                        d.slots += ownFields(c);
                    }
                } else if (d.kind == D_METHOD) {
                    d.family = uppermost(d);
                    d.slots = 0;
                } else if (d.kind == D_FIELD && d.isStatic) {
                    d.slot = statics;
                    statics++;
                } else if (d.kind != D_FIELD) {
                    d.slot = d.owner.slots;
                    d.owner.slots++;
                }
            }
            for (int i = 0; i < p.classCount; i++) {
                placeFields(p.classes[i]);
            }
        }

        private static int ownFields(Decl c) {
            int n = 0;
            for (Decl d = c.sub; d != null; d = d.next) {
                if (d.kind == D_FIELD && !d.isStatic) {
                    n++;
                }
            }
            return n;
        }

        private static void placeFields(Decl c) {
            int slot = c.above == null ? 0 : c.above.slots;
            for (Decl d = c.sub; d != null; d = d.next) {
                if (d.kind == D_FIELD && !d.isStatic) {
                    d.slot = slot;
                    slot++;
                }
            }
        }

        private Decl uppermost(Decl m) {
            Decl top = m;
            for (Decl c = m.owner.above; c != null; c = c.above) {
                for (Decl n = c.sub; n != null; n = n.next) {
                    if (n.kind == D_METHOD && p.overrides(m, n)) {
                        top = n;
                    }
                }
            }
            return top;
        }
    }

    /** Runs programs without ERRORS: exps part by part with a stack, calls and news by frames. */
    private static final class Machine {
        static final int TOLD = 5;
        static final int PRINTED = 0;
        static final int STEPS_DONE = 1;
        static final int OBJECTS = 2;
        static final int READ = 3;
        static final int FAILED_AT = 4;

        private static final int MOST_STEPS = 20000;
        private static final int MOST_CALLS = 40;
        private static final int MOST_OBJECTS = 400;
        /** Values of one call: each has a token of its own in the method's FILE. */
        private static final int CALL_VALUES = FILE_TOKENS + 20;
        private static final int STACK = (MOST_CALLS + 2) * CALL_VALUES;
        /** Far above the parts of exps that so many STEPS can have. */
        private static final int MOST_WORK = 100000000;

        // What a frame holds: the S or field at work, the exps that are left of it, and whose work it is.
        private static final int STAT = 0;
        private static final int FIELD = 1;
        private static final int AT = 2;
        private static final int LAST = 3;
        private static final int SELF = 4;
        private static final int BASE = 5;
        private static final int ROW = 6;
        private static final int ENTRY = 7;
        private static final int BACK = 8;
        private static final int FRAME = 9;
        /** The row of the static fields, behind those of the classes. */
        private static final int STATICS = CLASSES;

        final int[] ran = new int[TOLD];
        final int[] numbers = new int[NUMBERS];
        private Prog p;
        private int[] inputs;
        private int inputCount;
        private final int[] stack = new int[STACK];
        private int top;
        private final int[] heap = new int[MOST_OBJECTS * CLASSES * MEMBERS];
        private int heapUsed;
        private final int[] objectAt = new int[MOST_OBJECTS + 1];
        private final int[] objectClass = new int[MOST_OBJECTS + 1];
        private final int[] statics = new int[CLASSES * MEMBERS];
        private final int[][] frames = new int[MOST_CALLS + 1][FRAME];
        private int depth;
        /** For each class the fields whose exps a new works out, in order; a last row for the static ones. */
        private final int[][] rows = new int[CLASSES + 1][CLASSES * MEMBERS];
        private final int[] rowSize = new int[CLASSES + 1];
        /** For each class and method the one that a call of it means for objects of the class. */
        private final int[][] target = new int[CLASSES][CLASSES * MEMBERS];
        private int fail;
        private boolean going;

        /** Runs the program; 0 or the number of its FAIL. */
        int perform(Prog prog, int[] given, int count) {
            p = prog;
            inputs = given;
            inputCount = Math.min(count, given.length);
            Arrays.fill(ran, 0);
            ran[FAILED_AT] = NO;
            Arrays.fill(statics, 0);
            top = 0;
            heapUsed = 0;
            depth = 0;
            fail = 0;
            going = true;
            prepare();
            int[] f = frames[0];
            f[STAT] = -1;
            f[FIELD] = -1;
            f[SELF] = 0;
            f[ROW] = STATICS;
            f[ENTRY] = -1;
            nextField(f);
            for (int n = 0; n < MOST_WORK && going; n++) {
                f = frames[depth];
                int at = f[AT];
                if (at <= f[LAST]) {
                    f[AT] = at + 1;
                    workOut(p.exps[at], f);
                } else if (f[ROW] >= 0) {
                    keepField(f);
                } else {
                    complete(p.stats[f[STAT]], f);
                }
            }
            return fail;
        }

        // Ahead of a run.

        private void prepare() {
            Arrays.fill(rowSize, 0);
            for (int i = 0; i < p.declCount; i++) {
                Decl d = p.decls[i];
                if (d.kind == D_FIELD && d.isStatic && d.exp != null) {
                    enterRow(STATICS, d);
                }
            }
            for (int level = 0; level < CLASSES; level++) {
                for (int i = 0; i < p.classCount; i++) {
                    if (levelOf(p.classes[i]) == level) {
                        prepareClass(p.classes[i]);
                    }
                }
            }
        }

        private static int levelOf(Decl c) {
            int n = 0;
            for (Decl a = c.above; a != null; a = a.above) {
                n++;
            }
            return n;
        }

        private void enterRow(int row, Decl field) {
            if (rowSize[row] < rows[row].length) {
                rows[row][rowSize[row]] = field.index;
                rowSize[row]++;
            }
        }

        /** A class has what the one above has, and its own behind or instead of that. */
        private void prepareClass(Decl c) {
            int row = c.number;
            if (c.above != null) {
                int high = c.above.number;
                rowSize[row] = rowSize[high];
                System.arraycopy(rows[high], 0, rows[row], 0, rowSize[high]);
                System.arraycopy(target[high], 0, target[row], 0, target[high].length);
            } else {
                Arrays.fill(target[row], -1);
            }
            for (Decl d = c.sub; d != null; d = d.next) {
                if (d.kind == D_FIELD && !d.isStatic && d.exp != null) {
                    enterRow(row, d);
                } else if (d.kind == D_METHOD && !d.isStatic) {
                    for (int i = 0; i < p.declCount; i++) {
                        if (p.decls[i].kind == D_METHOD && p.decls[i].family == d.family) {
                            target[row][p.decls[i].number] = d.index;
                        }
                    }
                }
            }
        }

        // Values.

        private void push(int v) {
            if (top < STACK) {
                stack[top] = v;
                top++;
            }
        }

        private int pop() {
            if (top == 0) {
                return 0;
            }
            top--;
            return stack[top];
        }

        private void failWith(int number) {
            if (going) {
                going = false;
                fail = number;
                int[] f = frames[depth];
                if (f[FIELD] >= 0) {
                    ran[FAILED_AT] = p.at[p.decls[f[FIELD]].tok];
                } else if (f[STAT] >= 0) {
                    ran[FAILED_AT] = p.at[p.stats[f[STAT]].first];
                }
            }
        }

        private boolean step() {
            if (ran[STEPS_DONE] >= MOST_STEPS) {
                failWith(3);
                return false;
            }
            ran[STEPS_DONE]++;
            return true;
        }

        private boolean mayEnter() {
            if (depth >= MOST_CALLS || top + CALL_VALUES > STACK) {
                failWith(4);
                return false;
            }
            return true;
        }

        // Exps.

        private void workOut(Exp e, int[] f) {
            if (e.guard != null && isDecided(e.guard)) {
                f[AT] = e.guard.index;
                return;
            }
            switch (e.kind) {
                case NUMBER:
                    push(e.value);
                    break;
                case W_TRUE:
                    push(1);
                    break;
                case W_FALSE: case W_NULL:
                    push(0);
                    break;
                case W_THIS:
                    push(f[SELF]);
                    break;
                case W_READ:
                    push(ran[READ] < inputCount ? inputs[ran[READ]] : 0);
                    ran[READ]++;
                    break;
                case NAME:
                    if (!e.isTarget) {
                        pushVariable(e.means, f);
                    }
                    break;
                case FIELD_OF:
                    if (!e.isTarget) {
                        pushField(e);
                    }
                    break;
                case CALL:
                    callMethod(e, f);
                    break;
                case W_NEW:
                    makeObject(e);
                    break;
                case UNARY:
                    int v = pop();
                    push(e.value == NOT ? 1 - v : -v);
                    break;
                case BINARY:
                    join(e.value);
                    break;
                default:
                    break;
            }
        }

        /** Whether the left side, which is the value worked out last, tells that of an && or || already. */
        private boolean isDecided(Exp both) {
            boolean left = top > 0 && stack[top - 1] != 0;
            if (left == (both.value == OR)) {
                return true;
            }
            pop();
            return false;
        }

        private void join(int op) {
            if (op == AND || op == OR) {
                return;
            }
            int b = pop();
            int a = pop();
            if (b == 0 && (op == OVER || op == REST)) {
                failWith(2);
                return;
            }
            switch (op) {
                case SAME: push(a == b ? 1 : 0); break;
                case OTHER: push(a != b ? 1 : 0); break;
                case LESS: push(a < b ? 1 : 0); break;
                case LESS_OR: push(a <= b ? 1 : 0); break;
                case MORE: push(a > b ? 1 : 0); break;
                case MORE_OR: push(a >= b ? 1 : 0); break;
                case PLUS: push(a + b); break;
                case MINUS: push(a - b); break;
                case TIMES: push(a * b); break;
                case OVER: push(b == 0 ? 0 : a / b); break;
                case REST: push(b == 0 ? 0 : a % b); break;
                default: break;
            }
        }

        private void pushVariable(Decl d, int[] f) {
            if (d.kind != D_FIELD) {
                push(stack[f[BASE] + d.slot]);
            } else if (d.isStatic) {
                push(statics[d.slot]);
            } else {
                push(heap[objectAt[f[SELF]] + d.slot]);
            }
        }

        private void pushField(Exp e) {
            if (e.means.isStatic) {
                push(statics[e.means.slot]);
                return;
            }
            int object = pop();
            if (object == 0) {
                failWith(1);
            } else {
                push(heap[objectAt[object] + e.means.slot]);
            }
        }

        private void callMethod(Exp e, int[] f) {
            Decl m = e.means;
            int base = top - e.args;
            int back = base;
            int self = 0;
            if (!m.isStatic) {
                self = f[SELF];
                if (e.left != null && back > 0) {
                    back--;
                    self = stack[back];
                }
                if (self == 0) {
                    failWith(1);
                    return;
                }
                m = p.decls[Math.max(0, target[objectClass[self]][m.number])];
            }
            if (step() && mayEnter()) {
                enter(m, self, base, back);
            }
        }

        private void enter(Decl m, int self, int base, int back) {
            depth++;
            int[] f = frames[depth];
            f[STAT] = m.stat.index;
            f[FIELD] = -1;
            f[AT] = 0;
            f[LAST] = -1;
            f[SELF] = self;
            f[BASE] = base;
            f[ROW] = -1;
            f[BACK] = back;
            top = base + m.slots;
        }

        private void makeObject(Exp e) {
            if (!step() || !mayEnter()) {
                return;
            }
            Decl c = e.means;
            if (ran[OBJECTS] >= MOST_OBJECTS || heapUsed + c.slots > heap.length) {
                failWith(5);
                return;
            }
            ran[OBJECTS]++;
            int object = ran[OBJECTS];
            objectAt[object] = heapUsed;
            objectClass[object] = c.number;
            Arrays.fill(heap, heapUsed, heapUsed + c.slots, 0);
            heapUsed += c.slots;
            depth++;
            int[] f = frames[depth];
            f[STAT] = -1;
            f[FIELD] = -1;
            f[SELF] = object;
            f[BASE] = top;
            f[ROW] = c.number;
            f[ENTRY] = -1;
            f[BACK] = top;
            nextField(f);
        }

        // Fields get their values one behind the other, those of a new object and the static ones alike.

        private void nextField(int[] f) {
            f[ENTRY]++;
            if (f[ENTRY] < rowSize[f[ROW]]) {
                Decl d = p.decls[rows[f[ROW]][f[ENTRY]]];
                f[FIELD] = d.index;
                f[AT] = d.exp.lo;
                f[LAST] = d.exp.index;
            } else if (f[ROW] == STATICS) {
                f[FIELD] = -1;
                callMain();
            } else {
                depth--;
                top = f[BACK];
                push(f[SELF]);
            }
        }

        private void keepField(int[] f) {
            Decl d = p.decls[f[FIELD]];
            int v = pop();
            if (d.isStatic) {
                statics[d.slot] = v;
            } else {
                heap[objectAt[f[SELF]] + d.slot] = v;
            }
            nextField(f);
        }

        private void callMain() {
            for (int i = 0; i < p.declCount; i++) {
                if (isMain(p, p.decls[i])) {
                    if (step()) {
                        enter(p.decls[i], 0, 0, 0);
                    }
                    return;
                }
            }
            failWith(7);
        }

        static boolean isMain(Prog p, Decl d) {
            return d.kind == D_METHOD && d.isStatic && d.type == T_VOID && d.params == 0 && p.length[d.tok] == 4
                && p.byteAt(p.at[d.tok]) == 'm' && p.byteAt(p.at[d.tok] + 1) == 'a'
                && p.byteAt(p.at[d.tok] + 2) == 'i' && p.byteAt(p.at[d.tok] + 3) == 'n';
        }

        // Statements.

        private void beginStat(Stat s, int[] f) {
            f[STAT] = s.index;
            f[AT] = 0;
            f[LAST] = -1;
            // A while is a STEP, and so is its first trial.
            boolean goesOn = step() && (s.kind != S_WHILE || step());
            if (goesOn && s.exp != null) {
                f[AT] = s.exp.lo;
                f[LAST] = s.kind == S_GETS ? s.value.index : s.exp.index;
            }
        }

        private void tryAgain(Stat s, int[] f) {
            f[STAT] = s.index;
            if (step()) {
                f[AT] = s.exp.lo;
                f[LAST] = s.exp.index;
            }
        }

        /** What is due when the exps of a S are worked out. */
        private void complete(Stat s, int[] f) {
            Stat into = null;
            switch (s.kind) {
                case S_BLOCK:
                    into = s.sub;
                    break;
                case S_LOCAL:
                    stack[f[BASE] + s.local.slot] = pop();
                    break;
                case S_GETS:
                    store(s.exp, f);
                    break;
                case S_EXP:
                    if (s.exp.type != T_VOID) {
                        pop();
                    }
                    break;
                case S_IF:
                    into = pop() != 0 ? s.sub : s.otherwise;
                    break;
                case S_WHILE:
                    into = pop() != 0 ? s.sub : null;
                    break;
                case S_RETURN:
                    goBack(s, f);
                    return;
                case S_PRINT:
                    tell(pop());
                    break;
                default:
                    break;
            }
            if (going && into != null) {
                beginStat(into, f);
            } else if (going) {
                leave(s, f);
            }
        }

        private void tell(int v) {
            if (ran[PRINTED] >= NUMBERS) {
                failWith(6);
            } else {
                numbers[ran[PRINTED]] = v;
                ran[PRINTED]++;
            }
        }

        private void store(Exp target, int[] f) {
            int v = pop();
            Decl d = target.means;
            if (d.kind != D_FIELD) {
                stack[f[BASE] + d.slot] = v;
            } else if (d.isStatic) {
                statics[d.slot] = v;
            } else {
                int object = target.left == null ? f[SELF] : pop();
                if (object == 0) {
                    failWith(1);
                } else {
                    heap[objectAt[object] + d.slot] = v;
                }
            }
        }

        private void leave(Stat done, int[] f) {
            Stat s = done;
            for (int n = 0; n < MANY && s != null; n++) {
                if (s.next != null) {
                    beginStat(s.next, f);
                    return;
                }
                s = s.up;
                if (s != null && s.kind == S_WHILE) {
                    tryAgain(s, f);
                    return;
                }
            }
            goBack(null, f);
        }

        /** A call is over, by a return or at the method's end. */
        private void goBack(Stat by, int[] f) {
            boolean tells = by != null && by.exp != null;
            int v = tells ? pop() : 0;
            top = f[BACK];
            depth--;
            if (depth == 0 && frames[0][FIELD] < 0) {
                // No static field waits for it: it was main.
                going = false;
            } else if (tells) {
                push(v);
            }
        }
    }

    /** EDITS of a program, and THE NEW PROGRAM that they make. */
    private static final class Edits {
        /** One byte more in a FILE comes to too many, and need not be kept. */
        private static final int KEPT = FILES * (FILE_BYTES + 2) + 2;

        final int[] place = new int[ALL_TOKENS + 8];
        final int[] gone = new int[ALL_TOKENS + 8];
        final int[] length = new int[ALL_TOKENS + 8];
        private final int[] start = new int[ALL_TOKENS + 8];
        int count;
        private final byte[] bytes = new byte[KEPT];
        /** The PLACE of which a byte is a COPY, or NO. */
        private final int[] copied = new int[KEPT];
        private int used;
        private final int[] came = new int[FILES];
        /** The PLACES at which the bytes of THE NEW PROGRAM stood, or NO. */
        private final int[] origin = new int[FILES * FILE_BYTES];
        private Prog p;

        void open(Prog prog) {
            p = prog;
            count = 0;
            used = 0;
            Arrays.fill(came, 0);
        }

        // One EDIT: begun, what comes byte by byte, ended.

        void begin(int at, int bytesGone) {
            int e = Math.min(count, place.length - 1);
            place[e] = at;
            gone[e] = bytesGone;
            start[e] = used;
            count = e;
        }

        void beginTokens(int from, int to) {
            begin(p.at[from], p.endOf(to) - p.at[from]);
        }

        void end() {
            length[count] = used - start[count];
            count++;
        }

        /** A byte, and the PLACE of which it is a COPY, or NO; a blank ahead where it would run into a word. */
        void comes(int b, int from) {
            int f = place[count] / FILE_PLACES;
            if (f < 0 || f >= FILES || came[f] > FILE_BYTES || used + 1 >= KEPT) {
                return;
            }
            if (used == start[count] && isLetterOrDigit(b) && place[count] % FILE_PLACES > 0
                && isLetterOrDigit(p.byteAt(place[count] - 1))) {
                bytes[used] = ' ';
                copied[used] = NO;
                used++;
                came[f]++;
            }
            bytes[used] = (byte) b;
            copied[used] = from;
            used++;
            came[f]++;
        }

        void words(String s) {
            for (int i = 0; i < s.length(); i++) {
                comes(s.charAt(i), NO);
            }
        }

        /** A NAME that stands for the one at a PLACE, or for none. */
        void name(byte[] text, int n, int from) {
            for (int i = 0; i < n; i++) {
                comes(text[i] & 255, i == 0 ? from : NO);
            }
        }

        /** The bytes from one PLACE up to another one. */
        void copy(int from, int to) {
            int f = place[count] / FILE_PLACES;
            for (int at = from; at < to && f < FILES && came[f] <= FILE_BYTES; at++) {
                comes(p.byteAt(at), at);
            }
        }

        void copyTokens(int from, int to) {
            copy(p.at[from], p.endOf(to));
        }

        /** A COPY for an exp: in ( ) unless it is one token. */
        void copyAsExp(int from, int to) {
            if (from == to) {
                copy(p.at[from], p.endOf(to));
            } else {
                words("(");
                copy(p.at[from], p.endOf(to));
                words(")");
            }
        }

        /** The bytes of a token, which come anew; or stand for a NAME as told, where they do. */
        void tokenAnew(Prog of, int t, int from) {
            for (int k = 0; k < of.length[t]; k++) {
                comes(of.byteAt(of.at[t] + k), k == 0 ? from : NO);
            }
        }

        void typeAnew(int type) {
            Decl c = p.classOf(type);
            if (c == null) {
                words(type == T_INT ? "int" : "bool");
                return;
            }
            for (int k = 0; k < p.length[c.tok]; k++) {
                comes(p.byteAt(p.at[c.tok] + k), NO);
            }
        }

        int byteOf(int e, int i) {
            return bytes[start[e] + i] & 255;
        }

        /** By PLACES; those at one PLACE stay as they were told. */
        void sort() {
            for (int i = 1; i < count; i++) {
                int at = place[i];
                int g = gone[i];
                int n = length[i];
                int s = start[i];
                int k = i - 1;
                while (k >= 0 && place[k] > at) {
                    place[k + 1] = place[k];
                    gone[k + 1] = gone[k];
                    length[k + 1] = length[k];
                    start[k + 1] = start[k];
                    k--;
                }
                place[k + 1] = at;
                gone[k + 1] = g;
                length[k + 1] = n;
                start[k + 1] = s;
            }
        }

        // THE NEW PROGRAM.

        /** Makes its bytes; a FILE that is too long has a size of more than FILE_BYTES. */
        void make(Prog next) {
            int e = 0;
            for (int f = 0; f < FILES; f++) {
                next.size[f] = 0;
                int at = f * FILE_PLACES;
                while (e < count && place[e] / FILE_PLACES == f) {
                    stay(next, f, at, place[e]);
                    for (int k = 0; k < length[e]; k++) {
                        add(next, f, bytes[start[e] + k], copied[start[e] + k]);
                    }
                    at = place[e] + gone[e];
                    e++;
                }
                stay(next, f, at, f * FILE_PLACES + p.size[f]);
            }
        }

        private void stay(Prog next, int f, int from, int to) {
            for (int at = from; at < to; at++) {
                add(next, f, (byte) p.byteAt(at), at);
            }
        }

        private void add(Prog next, int f, byte b, int from) {
            int i = next.size[f];
            if (i < FILE_BYTES) {
                next.text[f][i] = b;
                origin[f * FILE_BYTES + i] = from;
            }
            next.size[f] = Math.min(i + 1, FILE_BYTES + 1);
        }

        /** The OLD one of a token of THE NEW PROGRAM, by its PLACE, or NO. */
        int oldOf(Prog next, int t) {
            int f = next.at[t] / FILE_PLACES;
            int i = next.at[t] % FILE_PLACES;
            return f < FILES && i < FILE_BYTES ? origin[f * FILE_BYTES + i] : NO;
        }
    }

    /** A change that is asked: its conditions, and the EDITS that it comes to. */
    private static final class Change {
        private final Edits edits;
        private Prog p;
        private byte[] name;
        private int nameSize;
        /** The PLACE of the condition that is broken. */
        int where;
        // What the change is of.
        private Decl told;
        private Exp exp;
        private Stat from;
        private Stat to;
        private Decl out;
        private final int[] digits = new int[PARAMS + 1];

        Change(Edits e) {
            edits = e;
        }

        void open(Prog prog, byte[] tape, int bytes) {
            p = prog;
            name = tape;
            nameSize = bytes;
            where = NO;
            told = null;
            exp = null;
            from = null;
            to = null;
            out = null;
            edits.open(prog);
        }

        /** The first of conditions 1 to 9 that is broken, or 0: then the EDITS are told. */
        int conditions(int sort, int a, int b) {
            where = a;
            if (!isThere(sort, a, b)) {
                return 1;
            }
            if (!isTapeFine(sort)) {
                return 2;
            }
            int broken;
            switch (sort) {
                case RENAME: broken = rename(); break;
                case PUT_IN_LOCAL: broken = putInLocal(); break;
                case TAKE_OUT_LOCAL: broken = takeOutLocal(); break;
                case TAKE_OUT_METHOD: broken = takeOutMethod(); break;
                case PUT_IN_METHOD: broken = putInMethod(); break;
                case SHUT_FIELD: broken = shutField(); break;
                case PULL_UP: broken = moveTo(told.owner.above); break;
                case PUSH_DOWN: broken = pushDown(); break;
                case SIGNATURE: broken = signature(); break;
                case MOVE: broken = moveStatic(); break;
                case DROP: broken = drop(); break;
                default: broken = turnIf(); break;
            }
            edits.sort();
            return broken;
        }

        /** Finds what the change is of. */
        private boolean isThere(int sort, int a, int b) {
            told = sort == RENAME ? p.meantAt(a) : p.toldAt(a);
            int kind = told == null ? -1 : told.kind;
            switch (sort) {
                case RENAME:
                    return told != null;
                case PUT_IN_LOCAL:
                    return kind == D_LOCAL;
                case TAKE_OUT_LOCAL:
                    exp = p.expAt(a, b);
                    return exp != null;
                case TAKE_OUT_METHOD:
                    return findStatements(a, b);
                case PUT_IN_METHOD: case SIGNATURE:
                    return kind == D_METHOD;
                case SHUT_FIELD:
                    return kind == D_FIELD;
                case PULL_UP: case PUSH_DOWN:
                    return kind == D_FIELD || kind == D_METHOD;
                case MOVE:
                    return (kind == D_FIELD || kind == D_METHOD) && told.isStatic;
                case DROP:
                    return told != null && kind != D_PARAM;
                default:
                    from = statementAt(a);
                    return from != null && from.kind == S_IF;
            }
        }

        private boolean isTapeFine(int sort) {
            switch (sort) {
                case RENAME: case TAKE_OUT_LOCAL: case TAKE_OUT_METHOD: case SHUT_FIELD: case PUSH_DOWN: case MOVE:
                    return isName();
                case SIGNATURE:
                    for (int i = 0; i < nameSize; i++) {
                        if (!isDigit(name[i])) {
                            return false;
                        }
                    }
                    return true;
                default:
                    return true;
            }
        }

        private boolean isName() {
            if (nameSize < 1 || nameSize > NAME_BYTES || !isLetter(name[0])) {
                return false;
            }
            for (int i = 1; i < nameSize; i++) {
                if (!isLetterOrDigit(name[i])) {
                    return false;
                }
            }
            return wordOrName(name, 0, nameSize) == NAME;
        }

        // What the conditions ask.

        private Stat statementAt(int place) {
            int t = p.tokenAt(place);
            for (int i = 0; i < p.statCount && t >= 0; i++) {
                // A method's own block is no S.
                if (p.stats[i].first == t && (p.stats[i].inBlock || p.stats[i].up != null)) {
                    return p.stats[i];
                }
            }
            return null;
        }

        private boolean findStatements(int a, int b) {
            from = statementAt(a);
            int last = p.tokenAt(b);
            if (from == null || !from.inBlock || last < 0) {
                return false;
            }
            for (to = from; to != null && to.last != last; ) {
                to = to.next;
            }
            return to != null;
        }

        private static boolean isWithin(Stat s, int first, int last) {
            return s.first >= first && s.last <= last;
        }

        /** The outermost while around a S, or null. */
        private static Stat whileAround(Stat s) {
            Stat found = null;
            for (Stat up = s.up; up != null; up = up.up) {
                if (up.kind == S_WHILE) {
                    found = up;
                }
            }
            return found;
        }

        /** Whether it is in front of = in this S. */
        private static boolean gets(Stat s, Decl d) {
            return s.kind == S_GETS && s.exp.means == d;
        }

        private int broken(int number, int tok) {
            where = p.at[tok];
            return number;
        }

        /** The least first token of an argument that is not CALM, of calls of the method or its FAMILY, or -1. */
        private int wildArgument() {
            int least = -1;
            for (int i = 0; i < p.expCount; i++) {
                Exp e = p.exps[i];
                if (e.kind == CALL && p.isFamily(e.means, told)) {
                    for (Exp a = e.arg; a != null; a = a.next) {
                        if (!p.isCalm(a) && (least < 0 || a.first < least)) {
                            least = a.first;
                        }
                    }
                }
            }
            return least;
        }

        // EDITS that several sorts have.

        private void goes(int first, int last) {
            edits.beginTokens(first, last);
            edits.end();
        }

        private void nameAnew() {
            edits.name(name, nameSize, NO);
        }

        // 0

        private int rename() {
            for (int t = 0; t < p.tokens; t++) {
                if (p.code[t] == NAME && p.isFamily(p.means[t], told)) {
                    edits.beginTokens(t, t);
                    edits.name(name, nameSize, p.at[t]);
                    edits.end();
                }
            }
            return 0;
        }

        // 1

        private int putInLocal() {
            Stat own = told.stat;
            exp = own.exp;
            for (int i = 0; i < p.statCount; i++) {
                if (gets(p.stats[i], told)) {
                    return broken(3, p.stats[i].exp.tok);
                }
            }
            if (!p.isCalm(exp)) {
                return broken(4, exp.first);
            }
            Stat around = whileAround(own);
            for (int i = 0; i < p.statCount; i++) {
                Stat s = p.stats[i];
                if (s.member == own.member && s.kind == S_GETS && isOfExp(s.exp.means)) {
                    boolean again = around != null && isWithin(s, around.first, around.last);
                    if (s.first > own.last || again) {
                        return broken(5, s.exp.tok);
                    }
                }
            }
            goes(own.first, own.last);
            for (int t = 0; t < p.tokens; t++) {
                if (t != told.tok && p.isMeant(told, t)) {
                    edits.beginTokens(t, t);
                    edits.copyAsExp(exp.first, exp.last);
                    edits.end();
                }
            }
            return 0;
        }

        private boolean isOfExp(Decl d) {
            return d != null && (d.kind == D_PARAM || d.kind == D_LOCAL) && p.useWithin(d, exp.first, exp.last) >= 0;
        }

        // 2

        private int takeOutLocal() {
            Stat s = exp.stat;
            if (exp.type == T_NULL || exp.type == T_VOID) {
                return 3;
            }
            if (exp.isTarget || s != null && s.kind == S_EXP && s.exp == exp) {
                return 4;
            }
            if (s == null || !s.inBlock || s.kind == S_WHILE) {
                return 5;
            }
            if (!p.isCalm(exp)) {
                return 6;
            }
            edits.begin(p.at[s.first], 0);
            edits.typeAnew(exp.type);
            edits.words(" ");
            nameAnew();
            edits.words(" = ");
            edits.copyTokens(exp.first, exp.last);
            edits.words("; ");
            edits.end();
            edits.beginTokens(exp.first, exp.last);
            nameAnew();
            edits.end();
            return 0;
        }

        // 3

        private int takeOutMethod() {
            Decl method = from.member;
            for (int i = 0; i < p.statCount; i++) {
                if (p.stats[i].kind == S_RETURN && isWithin(p.stats[i], from.first, to.last)) {
                    return broken(3, p.stats[i].first);
                }
            }
            for (int t = to.last + 1; t <= method.last; t++) {
                Decl d = p.code[t] == NAME ? p.means[t] : null;
                if (d != null && d.kind == D_LOCAL && d.tok >= from.first && d.tok <= to.last) {
                    return broken(4, t);
                }
            }
            int second = findOut(method);
            if (second >= 0) {
                return broken(5, second);
            }
            int params = 0;
            for (int i = method.index + 1; i < p.declCount && p.decls[i].owner == method; i++) {
                params += isHandedIn(p.decls[i]) ? 1 : 0;
            }
            for (int i = 0; i < p.declCount; i++) {
                Decl m = p.decls[i];
                if (m.kind == D_METHOD && m.params == params && isRelated(m.owner, method.owner)
                    && p.isText(m.tok, name, nameSize)) {
                    return 6;
                }
            }
            tellNewMethod(method);
            return 0;
        }

        private static boolean isRelated(Decl c, Decl d) {
            return c == d || c.isHeirOf(d) || d.isHeirOf(c);
        }

        /** Finds OUT; the first place in front of = of the second one that is so, or -1. */
        private int findOut(Decl method) {
            boolean again = whileAround(from) != null;
            for (int i = 0; i < p.statCount; i++) {
                Stat s = p.stats[i];
                if (s.kind == S_GETS && isWithin(s, from.first, to.last)) {
                    Decl d = s.exp.means;
                    boolean isOwn = d.kind == D_PARAM || d.kind == D_LOCAL;
                    if (isOwn && d.tok < from.first && (again || p.useWithin(d, to.last + 1, method.last) >= 0)) {
                        if (out != null && d != out) {
                            return s.exp.tok;
                        }
                        out = d;
                    }
                }
            }
            return -1;
        }

        private boolean isHandedIn(Decl d) {
            return d.tok < from.first && p.useWithin(d, from.first, to.last) >= 0;
        }

        private void tellNewMethod(Decl method) {
            edits.beginTokens(from.first, to.last);
            if (out != null) {
                edits.tokenAnew(p, out.tok, NO);
                edits.words(" = ");
            }
            nameAnew();
            edits.words("(");
            tellHandedIn(method, false);
            edits.words(");");
            edits.end();
            edits.begin(p.endOf(method.last), 0);
            edits.words(method.isStatic ? " static " : " ");
            if (out != null) {
                edits.typeAnew(out.type);
            } else {
                edits.words("void");
            }
            edits.words(" ");
            nameAnew();
            edits.words("(");
            tellHandedIn(method, true);
            edits.words(") { ");
            edits.copyTokens(from.first, to.last);
            if (out != null) {
                edits.words(" return ");
                edits.tokenAnew(p, out.tok, NO);
                edits.words(";");
            }
            edits.words(" }");
            edits.end();
        }

        private void tellHandedIn(Decl method, boolean asParams) {
            boolean first = true;
            for (int i = method.index + 1; i < p.declCount && p.decls[i].owner == method; i++) {
                Decl d = p.decls[i];
                if (isHandedIn(d)) {
                    if (!first) {
                        edits.words(", ");
                    }
                    first = false;
                    if (asParams) {
                        edits.typeAnew(d.type);
                        edits.words(" ");
                    }
                    edits.tokenAnew(p, d.tok, asParams ? p.at[d.tok] : NO);
                }
            }
        }

        // 4

        private int putInMethod() {
            Stat only = told.stat.sub;
            if (only == null || only.next != null || only.kind != S_RETURN || only.exp == null) {
                return 3;
            }
            if (p.familySize(told) > 1) {
                return 4;
            }
            exp = only.exp;
            if (p.useWithin(told, exp.first, exp.last) >= 0) {
                return 5;
            }
            int wild = wildArgument();
            if (wild >= 0) {
                return broken(6, wild);
            }
            for (int i = 0; i < p.expCount && !told.isStatic; i++) {
                Exp e = p.exps[i];
                if (e.kind == CALL && e.means == told && e.left != null && e.left.kind != W_THIS) {
                    return broken(7, e.tok);
                }
            }
            goes(told.first, told.last);
            for (int i = 0; i < p.expCount; i++) {
                Exp e = p.exps[i];
                if (e.kind == CALL && e.means == told) {
                    edits.beginTokens(e.first, e.last);
                    edits.words("(");
                    copyWithArguments(e);
                    edits.words(")");
                    edits.end();
                }
            }
            return 0;
        }

        private void copyWithArguments(Exp call) {
            int at = p.at[exp.first];
            for (int t = exp.first; t <= exp.last; t++) {
                Decl d = p.code[t] == NAME ? p.means[t] : null;
                if (d != null && d.kind == D_PARAM) {
                    edits.copy(at, p.at[t]);
                    Exp a = call.arg;
                    for (int i = d.index - told.index - 1; i > 0 && a != null; i--) {
                        a = a.next;
                    }
                    if (a != null) {
                        edits.copyAsExp(a.first, a.last);
                    }
                    at = p.endOf(t);
                }
            }
            edits.copy(at, p.endOf(exp.last));
        }

        // 5

        private int shutField() {
            if (told.isStatic) {
                return 3;
            }
            for (int i = 0; i < p.statCount; i++) {
                Stat s = p.stats[i];
                if (gets(s, told) && s.member.owner != told.owner) {
                    return broken(4, s.exp.tok);
                }
            }
            edits.begin(p.endOf(told.last), 0);
            edits.words(" ");
            edits.typeAnew(told.type);
            edits.words(" ");
            nameAnew();
            edits.words("() { return ");
            edits.tokenAnew(p, told.tok, NO);
            edits.words("; }");
            edits.end();
            for (int t = 0; t < p.tokens; t++) {
                if (p.isMeant(told, t) && p.classAround(t) != told.owner) {
                    edits.beginTokens(t, t);
                    nameAnew();
                    edits.words("()");
                    edits.end();
                }
            }
            return 0;
        }

        // 6, 7

        private int pushDown() {
            Decl c = p.classNamed(name, nameSize);
            return c == null || c.above != told.owner ? 3 : moveTo(c);
        }

        private int moveTo(Decl c) {
            if (c == null) {
                return 3;
            }
            goes(told.first, told.last);
            edits.begin(p.at[c.last], 0);
            edits.copyTokens(told.first, told.last);
            edits.words(" ");
            edits.end();
            return 0;
        }

        // 8

        private int signature() {
            boolean each = nameSize <= told.params;
            for (int i = 0; i < nameSize && each; i++) {
                digits[i] = name[i] - '0';
                each = digits[i] < told.params;
                for (int k = 0; k < i; k++) {
                    each = each && digits[k] != digits[i];
                }
            }
            if (!each) {
                return 3;
            }
            for (int t = 0; t < p.tokens; t++) {
                Decl d = p.code[t] == NAME ? p.means[t] : null;
                if (d != null && d.kind == D_PARAM && t != d.tok && p.isFamily(d.owner, told) && isLeftOut(d)) {
                    return broken(4, t);
                }
            }
            int wild = wildArgument();
            if (wild >= 0) {
                return broken(5, wild);
            }
            for (int i = 0; i < p.declCount; i++) {
                Decl m = p.decls[i];
                if (m.kind == D_METHOD && m.family == told.family) {
                    tellParams(m);
                }
            }
            for (int i = 0; i < p.expCount; i++) {
                Exp e = p.exps[i];
                if (e.kind == CALL && p.isFamily(e.means, told)) {
                    tellArguments(e);
                }
            }
            return 0;
        }

        private boolean isLeftOut(Decl param) {
            int number = param.index - param.owner.index - 1;
            for (int i = 0; i < nameSize; i++) {
                if (digits[i] == number) {
                    return false;
                }
            }
            return true;
        }

        /** Begins the EDIT of all within ( ) that stand at two tokens. */
        private void beginWithin(int left, int right) {
            edits.begin(p.endOf(left), p.at[right] - p.endOf(left));
        }

        private void tellParams(Decl m) {
            beginWithin(m.tok + 1, m.stat.first - 1);
            for (int i = 0; i < nameSize; i++) {
                Decl d = p.param(m, digits[i]);
                if (d != null) {
                    if (i > 0) {
                        edits.words(", ");
                    }
                    edits.copyTokens(d.typeTok, d.typeTok);
                    edits.words(" ");
                    edits.copyTokens(d.tok, d.tok);
                }
            }
            edits.end();
        }

        private void tellArguments(Exp call) {
            beginWithin(call.tok + 1, call.last);
            for (int i = 0; i < nameSize; i++) {
                Exp a = call.arg;
                for (int n = digits[i]; n > 0 && a != null; n--) {
                    a = a.next;
                }
                if (a != null) {
                    if (i > 0) {
                        edits.words(", ");
                    }
                    edits.copyTokens(a.first, a.last);
                }
            }
            edits.end();
        }

        // 9

        private int moveStatic() {
            Decl c = p.classNamed(name, nameSize);
            if (c == null || c == told.owner) {
                return 3;
            }
            goes(told.first, told.last);
            edits.begin(p.at[c.last], 0);
            copyMoved(c);
            edits.words(" ");
            edits.end();
            for (int t = 0; t < p.tokens; t++) {
                if (p.isMeant(told, t) && (t < told.first || t > told.last)) {
                    if (p.codeAt(t - 1) == DOT) {
                        edits.beginTokens(t - 2, t - 2);
                        edits.tokenAnew(p, c.tok, NO);
                    } else {
                        edits.begin(p.at[t], 0);
                        edits.tokenAnew(p, c.tok, NO);
                        edits.words(".");
                    }
                    edits.end();
                }
            }
            return 0;
        }

        /** The COPY of the member, in which what it means by NAMES alone is told with its class. */
        private void copyMoved(Decl c) {
            int at = p.at[told.first];
            for (int t = told.first; t <= told.last; t++) {
                Decl d = p.code[t] == NAME ? p.means[t] : null;
                boolean alone = p.codeAt(t - 1) != DOT;
                if (alone && t != told.tok && d != null && d.isMember() && d.isStatic) {
                    edits.copy(at, p.at[t]);
                    edits.tokenAnew(p, d == told ? c.tok : d.owner.tok, NO);
                    edits.words(".");
                    at = p.at[t];
                } else if (d != null && d.kind == D_CLASS && p.codeAt(t + 1) == DOT && p.isMeant(told, t + 2)) {
                    edits.copy(at, p.at[t]);
                    edits.tokenAnew(p, c.tok, NO);
                    at = p.endOf(t);
                }
            }
            edits.copy(at, p.endOf(told.last));
        }

        // 10

        private int drop() {
            int first = told.first;
            int last = told.last;
            exp = told.exp;
            if (told.kind == D_LOCAL) {
                first = told.stat.first;
                last = told.stat.last;
                exp = told.stat.exp;
            }
            for (int t = 0; t < p.tokens; t++) {
                if ((t < first || t > last) && p.isMeant(told, t)) {
                    return broken(3, t);
                }
            }
            if (exp != null && !p.isCalm(exp)) {
                return broken(4, exp.first);
            }
            if (told.kind == D_METHOD && (p.familySize(told) > 1 || Machine.isMain(p, told))) {
                return 5;
            }
            goes(first, last);
            return 0;
        }

        // 11

        private int turnIf() {
            if (from.otherwise == null) {
                return 3;
            }
            edits.beginTokens(from.exp.first, from.exp.last);
            edits.words("!(");
            edits.copyTokens(from.exp.first, from.exp.last);
            edits.words(")");
            edits.end();
            swapIn(from.sub, from.otherwise);
            swapIn(from.otherwise, from.sub);
            return 0;
        }

        private void swapIn(Stat s, Stat other) {
            edits.beginTokens(s.first, s.last);
            edits.words(" { ");
            edits.copyTokens(other.first, other.last);
            edits.words(" } ");
            edits.end();
        }

        // THE NEW PROGRAM.

        /** The first of conditions 20 to 22 that is broken, or 0. */
        int soundness(Reader reader, Judge judge, Prog next) {
            edits.make(next);
            if (reader.readProgram(next, 0, CLASSES) != 0) {
                where = reader.faultPlace;
                return 20;
            }
            judge.look(next);
            if (next.error != 0) {
                where = next.errorPlace;
                return 20;
            }
            where = strayedName(next);
            if (where >= 0) {
                return 21;
            }
            where = strayedMethod(next);
            return where >= 0 ? 22 : 0;
        }

        /** What the OLD one of a token means, or null. */
        private Decl oldMeaning(Prog next, int t) {
            int old = p.tokenAt(edits.oldOf(next, t));
            return old >= 0 && p.code[old] == NAME ? p.means[old] : null;
        }

        private int strayedName(Prog next) {
            int least = NO;
            for (int t = 0; t < next.tokens; t++) {
                Decl old = next.code[t] == NAME ? oldMeaning(next, t) : null;
                if (old != null && next.means[t] != null
                    && edits.oldOf(next, next.means[t].tok) != p.at[old.tok]) {
                    int place = edits.oldOf(next, t);
                    least = least < 0 ? place : Math.min(least, place);
                }
            }
            return least;
        }

        private int strayedMethod(Prog next) {
            int least = NO;
            for (int i = 0; i < next.declCount; i++) {
                Decl low = oldMethod(next, next.decls[i]);
                for (int k = 0; k < next.declCount && low != null; k++) {
                    Decl high = oldMethod(next, next.decls[k]);
                    if (high != null && p.overrides(low, high) != next.overrides(next.decls[i], next.decls[k])) {
                        int place = p.at[low.tok];
                        least = least < 0 ? place : Math.min(least, place);
                    }
                }
            }
            return least;
        }

        private Decl oldMethod(Prog next, Decl d) {
            return d.kind == D_METHOD ? oldMeaning(next, d.tok) : null;
        }
    }

    /** Finds exps by a RECIPE, and runs of tokens that are ALIKE. */
    private static final class Finder {
        private final Prog recipe = new Prog(1, TAPE_BYTES, RECIPE_TOKENS + 8);
        private Prog p;
        private Exp pattern;
        /** The token '->': the second exp stands behind it. */
        private int arrow;
        /** Whether there is a RECIPE without a FAULT. */
        boolean learned;
        int faultPlace = NO;
        private final int[] found = new int[ALL_TOKENS];
        int foundCount;
        /** What each $ stands for in the exp that was looked at last. */
        private final Exp[] bound = new Exp[26];
        // For each token the last one of a chain of earlier ones, or of exps that begin with it.
        private final int[] latest = new int[ALL_TOKENS];
        private final int[] earlier = new int[ALL_TOKENS];
        private final int[] runs = new int[ALL_TOKENS];
        final int[] pairFirst = new int[PAIRS];
        final int[] pairSecond = new int[PAIRS];
        int pairCount;

        /** What was found is no more, since the program changed. */
        void forget() {
            learned = false;
            foundCount = 0;
            pairCount = 0;
        }

        // RECIPES.

        /** Reads a RECIPE; 0 or its FAULT. */
        int learn(Reader reader, Prog prog, byte[] tape, int bytes) {
            p = prog;
            learned = false;
            foundCount = 0;
            System.arraycopy(tape, 0, recipe.text[0], 0, bytes);
            recipe.size[0] = bytes;
            int fault = reader.readPattern(recipe);
            faultPlace = reader.faultPlace;
            if (fault == 0) {
                pattern = reader.pattern;
                fault = lookAtDollars();
            }
            learned = fault == 0;
            return fault;
        }

        private int lookAtDollars() {
            arrow = 0;
            while (arrow < recipe.tokens && recipe.code[arrow] != ARROW) {
                arrow++;
            }
            int seen = 0;
            for (int t = 0; t < recipe.tokens; t++) {
                if (recipe.code[t] == DOLLAR) {
                    int bit = 1 << (recipe.byteAt(recipe.at[t] + 1) - 'a');
                    boolean before = (seen & bit) != 0;
                    boolean typed = recipe.codeAt(t + 1) == COLON;
                    if (t > arrow ? !before : typed && before) {
                        faultPlace = recipe.at[t];
                        return 4;
                    }
                    if (typed && typeTold(t + 2) == T_UNKNOWN) {
                        faultPlace = recipe.at[t + 2];
                        return 5;
                    }
                    seen |= bit;
                }
            }
            for (int i = 0; i < recipe.expCount; i++) {
                Exp e = recipe.exps[i];
                if (e.kind == DOLLAR) {
                    e.type = e.last > e.tok ? typeTold(e.last) : T_UNKNOWN;
                }
            }
            return 0;
        }

        private int typeTold(int t) {
            switch (recipe.codeAt(t)) {
                case W_INT: return T_INT;
                case W_BOOL: return T_BOOL;
                default: break;
            }
            for (int c = 0; c < p.classCount && t < recipe.tokens; c++) {
                if (p.isTextOf(p.classes[c].tok, recipe, t)) {
                    return p.classes[c].type;
                }
            }
            return T_UNKNOWN;
        }

        /** How many exps the RECIPE finds. */
        int search() {
            Arrays.fill(latest, -1);
            for (int i = 0; i < p.expCount; i++) {
                int first = p.exps[i].first;
                earlier[i] = latest[first];
                latest[first] = i;
            }
            for (int t = 0; t < p.tokens; t++) {
                // Of one first token a longer exp is made behind a shorter one, so the chain has it ahead.
                for (int i = latest[t]; i >= 0; i = earlier[i]) {
                    Exp e = p.exps[i];
                    if (isReplaceable(e) && matches(e)) {
                        found[foundCount] = i;
                        foundCount++;
                        t = e.last;
                        break;
                    }
                }
            }
            return foundCount;
        }

        Exp foundExp(int i) {
            return i >= 0 && i < foundCount ? p.exps[found[i]] : null;
        }

        private static boolean isReplaceable(Exp e) {
            boolean isWhole = e.stat != null && e.stat.kind == S_EXP && e.stat.exp == e;
            return e.kind != CLASS_NAME && !e.isTarget && !isWhole;
        }

        /** Compares part by part from the last one on: that goes without recursion, as parts stand in a row. */
        private boolean matches(Exp e) {
            for (int k = 0; k < bound.length; k++) {
                bound[k] = null;
            }
            int j = e.index;
            for (int i = pattern.index; i >= pattern.lo; i--) {
                Exp w = recipe.exps[i];
                if (w.kind == PAREN) {
                    continue;
                }
                if (j < e.lo) {
                    return false;
                }
                Exp x = p.exps[j];
                if (w.kind == DOLLAR) {
                    if (!standsFor(w, x)) {
                        return false;
                    }
                    j = x.lo - 1;
                } else {
                    while (x.kind == PAREN && j > e.lo) {
                        j--;
                        x = p.exps[j];
                    }
                    if (!isSamePart(w, x)) {
                        return false;
                    }
                    j--;
                }
            }
            return j < e.lo;
        }

        private boolean isSamePart(Exp w, Exp x) {
            boolean isClass = w.kind == NAME && x.kind == CLASS_NAME;
            if (w.kind != x.kind && !isClass) {
                return false;
            }
            if (w.kind == UNARY || w.kind == BINARY) {
                return w.value == x.value;
            }
            return w.args == x.args && (w.left == null) == (x.left == null) && recipe.isTextOf(w.tok, p, x.tok);
        }

        private boolean standsFor(Exp w, Exp x) {
            if (x.kind == CLASS_NAME || x.type == T_VOID || w.type != T_UNKNOWN && !p.fits(x.type, w.type)) {
                return false;
            }
            Exp other = bound[w.value];
            if (other != null && !isSameText(bare(other), bare(x))) {
                return false;
            }
            bound[w.value] = x;
            return true;
        }

        private static Exp bare(Exp e) {
            Exp x = e;
            for (int n = 0; n < MANY && x.kind == PAREN && x.left != null; n++) {
                x = x.left;
            }
            return x;
        }

        private boolean isSameText(Exp a, Exp b) {
            int n = a.last - a.first;
            if (b.last - b.first != n) {
                return false;
            }
            for (int k = 0; k <= n; k++) {
                if (p.sym[a.first + k] != p.sym[b.first + k]) {
                    return false;
                }
            }
            return true;
        }

        /** Tells the EDITS of PUT. */
        void tell(Edits edits) {
            boolean isOne = recipe.tokens - arrow == 2;
            for (int i = 0; i < foundCount; i++) {
                Exp e = p.exps[found[i]];
                matches(e);
                edits.beginTokens(e.first, e.last);
                if (!isOne) {
                    edits.words("(");
                }
                for (int t = arrow + 1; t < recipe.tokens; t++) {
                    if (t > arrow + 1) {
                        edits.words(" ");
                    }
                    tellToken(edits, t);
                }
                if (!isOne) {
                    edits.words(")");
                }
                edits.end();
            }
        }

        private void tellToken(Edits edits, int t) {
            if (recipe.code[t] != DOLLAR) {
                edits.tokenAnew(recipe, t, NO);
                return;
            }
            Exp x = bound[recipe.byteAt(recipe.at[t] + 1) - 'a'];
            if (x != null) {
                edits.copyAsExp(x.first, x.last);
            }
        }

        // ALIKE.

        /** How many pairs of runs of n TOKENS are ALIKE. */
        int pairUp(Prog prog, int n) {
            p = prog;
            pairCount = 0;
            Arrays.fill(latest, -1);
            for (int t = 0; t < p.tokens; t++) {
                int s = p.sym[t];
                earlier[t] = s >= 0 ? latest[s] : -1;
                if (s >= 0) {
                    latest[s] = t;
                }
            }
            int count = 0;
            for (int i = 0; i < p.statCount; i++) {
                if (isRun(p.stats[i], n)) {
                    runs[count] = p.stats[i].first;
                    count++;
                }
            }
            for (int i = 0; i < count; i++) {
                for (int k = i + 1; k < count && pairCount < PAIRS; k++) {
                    if (runs[k] >= runs[i] + n && areAlike(runs[i], runs[k], n)) {
                        pairFirst[pairCount] = runs[i];
                        pairSecond[pairCount] = runs[k];
                        pairCount++;
                    }
                }
            }
            return pairCount;
        }

        /** Whether S's of one block from this one on have so many tokens. */
        private static boolean isRun(Stat first, int n) {
            if (!first.inBlock) {
                return false;
            }
            for (Stat s = first; s != null; s = s.next) {
                int tokens = s.last - first.first + 1;
                if (tokens >= n) {
                    return tokens == n;
                }
            }
            return false;
        }

        private boolean areAlike(int a, int b, int n) {
            for (int k = 0; k < n; k++) {
                int x = a + k;
                int y = b + k;
                if (p.code[x] != p.code[y]) {
                    return false;
                }
                if (p.code[x] == NAME) {
                    int before = earlier[x] >= a ? x - earlier[x] : 0;
                    int beforeOther = earlier[y] >= b ? y - earlier[y] : 0;
                    if (before != beforeOther) {
                        return false;
                    }
                } else if (p.sym[x] != p.sym[y]) {
                    return false;
                }
            }
            return true;
        }
    }

    /** The programs of the steps that are kept: so many done, so many undone. */
    private static final class History {
        /** Rows are made when they are needed first, and used again. */
        private final byte[][] texts = new byte[STEPS + 1][];
        private final int[][] sizes = new int[STEPS + 1][FILES];
        /** The row of the oldest program. */
        private int oldest;
        int done;
        int undone;

        void forget() {
            done = 0;
            undone = 0;
        }

        /** A step from one program to the next. */
        void step(Prog from, Prog next) {
            keep(done, from);
            if (done == STEPS) {
                oldest = (oldest + 1) % (STEPS + 1);
            } else {
                done++;
            }
            undone = 0;
            keep(done, next);
        }

        private void keep(int steps, Prog p) {
            int row = (oldest + steps) % (STEPS + 1);
            if (texts[row] == null) {
                texts[row] = new byte[FILES * FILE_BYTES];
            }
            for (int f = 0; f < FILES; f++) {
                System.arraycopy(p.text[f], 0, texts[row], f * FILE_BYTES, p.size[f]);
                sizes[row][f] = p.size[f];
            }
        }

        /** Gives a program the texts behind so many steps. */
        void bring(int steps, Prog p) {
            int row = (oldest + steps) % (STEPS + 1);
            for (int f = 0; f < FILES && texts[row] != null; f++) {
                System.arraycopy(texts[row], f * FILE_BYTES, p.text[f], 0, sizes[row][f]);
                p.size[f] = sizes[row][f];
            }
        }

        /** So many steps are done now, of those that there are. */
        void stand(int steps) {
            undone += done - steps;
            done = steps;
        }
    }
}
