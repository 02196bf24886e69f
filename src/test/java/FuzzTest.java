import java.util.ArrayList;
import java.util.List;
import java.util.Random;

/**
 * Calls of all sorts on random programs. None may throw; EDITS make just the program that apply() makes; undo
 * and redo go back and forth; and SOUND changes of those sorts that keep what a run tells do keep it.
 */
public final class FuzzTest {
    private static final String[] PIECES = {"{", "}", "(", ")", ";", ",", ".", "=", "==", "!=", "<", "&&", "||", "+", "-", "*",
        "/", "%", "!", "class ", " extends ", "static ", " int ", " bool ", " void ", "if (", " else ", "while (", "return ", "print ",
        "read", "new ", "this", "null", "true", "false", "A", "B", "M", "o0", "f1", "f2", "v0", "main", "1", "0", "999999999",
        "1234567890", "// ", "\n", "#", "abcdefghijklmnop", "int k = 1;", "x = 2;", "{ }", "(x)", "-", "\u00e9", " A a = null;",
        "static int t2;", "$x", "->", ":"};

    private static final String[] RECIPES = {"$x -> $x", "$x + $y -> $y + $x", "$x:int -> $x * 1", "1 -> 2", "$x.f1 -> $x.f1",
        "$x == $x -> true", "!$x -> $x == false", "$x:A -> null", "($x) - 1 -> $x", "$x * $y -> $y * $x", "$x -> $y", "$x:Z -> 1",
        "->", "new $x", "$x && $y -> $y && $x", "$x < $y -> $y > $x", "$e.m1($x) -> $e.m1($x + 0)", "A.f1 -> 3", "$x -> f1"};

    private static final String[] ORDERS = {"", "0", "1", "10", "01", "210", "20", "2", "00", "9", "x"};

    private static final Random random = new Random(2026);
    private static int sound;

    public static void main(String[] args) {
        int rounds = args.length > 0 ? Integer.parseInt(args[0]) : 600;
        for (int r = 0; r < rounds; r++) {
            House x = new House();
            String text = new RandomProgram(r).text();
            int spoilt = random.nextInt(3) == 0 ? 1 + random.nextInt(3) : 0;
            x.load(random.nextInt(4), spoil(text.substring(0, Math.min(3000, text.length())), spoilt));
            for (int i = 0; i < 6; i++) {
                x.h.input(random.nextInt(9) - 3);
            }
            x.h.run(0);
            List<Integer> tokens = look(x);
            for (int k = 0; k < 12; k++) {
                change(x, tokens);
            }
            recipes(x);
            alike(x);
        }
        House.due("SOUND changes, some", sound > rounds ? 1 : 0, 1);
        House.end("FuzzTest (" + sound + " SOUND changes)");
    }

    private static String spoil(String text, int times) {
        String s = text;
        for (int i = 0; i < times; i++) {
            int at = random.nextInt(s.length() + 1);
            int gone = Math.min(random.nextInt(3), s.length() - at);
            String piece = random.nextInt(3) == 0 ? "" : PIECES[random.nextInt(PIECES.length)];
            s = s.substring(0, at) + piece + s.substring(at + gone);
        }
        return s;
    }

    /** The PLACES of all tokens; looks at what they mean. */
    private static List<Integer> look(House x) {
        int error = x.h.judge();
        House.due("place of an ERROR", x.h.place() == -2 ? 1 : 0, error == 0 ? 1 : 0);
        List<Integer> tokens = new ArrayList<>();
        for (int p = 0; p < 40000; p++) {
            if (x.h.token(p, 0) <= 0) {
                p = p % 10000 < x.h.size(p / 10000) ? p : p / 10000 * 10000 + 9999;
                continue;
            }
            tokens.add(p);
            int told = x.h.means(p, 0);
            if (told >= 0) {
                House.due("told there", x.h.means(told, 0), told);
                boolean is = false;
                for (int i = 0; i < x.h.uses(told); i++) {
                    is = is || x.h.use(told, i) == p;
                }
                House.due("is a use", is ? 1 : 0, 1);
            }
        }
        if (tokens.isEmpty()) {
            tokens.add(0);
        }
        return tokens;
    }

    private static int tokenOf(List<Integer> tokens, int from, int to) {
        return tokens.get(Math.min(tokens.size() - 1, from + random.nextInt(to)));
    }

    /** What is told, of a kind for which the sort is. */
    private static int subject(House x, int sort, List<Integer> tokens) {
        int kind = sort == 1 ? 4 : sort == 4 || sort == 8 ? 2 : sort == 5 ? 1 : sort == 10 ? random.nextInt(5) : 1 + random.nextInt(2);
        int n = x.h.count(kind);
        boolean any = sort == 0 || sort == 2 || sort == 3 || sort == 11 || n <= 0 || random.nextInt(20) == 0;
        return any ? tokenOf(tokens, 0, tokens.size()) : x.h.told(kind, random.nextInt(n));
    }

    private static String[] texts(House x) {
        return new String[] {x.text(0), x.text(1), x.text(2), x.text(3)};
    }

    private static void same(String what, String[] got, String[] want) {
        for (int f = 0; f < 4; f++) {
            House.due(what, got[f], want[f]);
        }
    }

    private static void change(House x, List<Integer> tokens) {
        int sort = random.nextInt(12);
        String[] old = texts(x);
        int a = subject(x, sort, tokens);
        int b = 0;
        String begin = sort == 11 ? "if (" : ";{}";
        for (int t = 0; t < 200 && (sort == 2 || sort == 3 || sort == 11); t++) {
            int i = random.nextInt(tokens.size());
            a = tokens.get(i);
            b = tokenOf(tokens, i, sort == 2 ? 6 : 25);
            String ahead = old[a / 10000].substring(0, Math.min(a % 10000, old[a / 10000].length())).trim();
            boolean isStart = !ahead.isEmpty() && ";{}".indexOf(ahead.charAt(ahead.length() - 1)) >= 0;
            if (sort == 2 ? x.h.type(a, b) >= 0 : sort == 3 ? isStart : old[a / 10000].startsWith("if (", a % 10000)) {
                break;
            }
        }
        String name = sort == 8 ? ORDERS[random.nextInt(ORDERS.length)]
            : sort == 7 || sort == 9 ? "" + (char) ('A' + random.nextInt(5))
            : "zmf".charAt(random.nextInt(3)) + "" + random.nextInt(9);
        boolean isMain = old[a / 10000].startsWith("main", a % 10000) || old[a / 10000].startsWith("M", a % 10000);
        x.h.cut(x.h.cut(0));
        int told = x.ask(sort, a, b, name);
        if (told != 0) {
            House.due("no EDITS of what is not SOUND", x.h.edits(), told == -2 ? x.h.edits() : 0);
            return;
        }
        sound++;
        String[] want = edited(x, old);
        House.due("applied", x.h.apply() > 0 ? 1 : 0, 1);
        same("as by the EDITS", texts(x), want);
        House.due("judge", x.h.judge(), 0);
        boolean keeps = sort != 3 && sort != 5 && sort != 6 && sort != 7 && sort != 9 && !isMain;
        if (keeps && !isNearLimit(x)) {
            House.due("a run of " + String.join("", old) + " behind change " + sort, x.h.twin(3, 99), 3);
        }
        x.h.undo();
        same("undone", texts(x), old);
        x.h.redo();
        same("done again", texts(x), want);
        x.h.undo();
    }

    /** Runs that go on for long may end elsewhere behind a change. */
    private static boolean isNearLimit(House x) {
        int a = x.h.run(0);
        int b = x.h.run(1);
        return a > 2 || b > 2;
    }

    private static String[] edited(House x, String[] old) {
        String[] s = {"", "", "", ""};
        int[] at = new int[4];
        for (int i = 0; i < x.h.edits(); i++) {
            int f = x.h.edit(i, 0) / 10000;
            int p = x.h.edit(i, 0) % 10000;
            String e = x.edit(i);
            s[f] += old[f].substring(at[f], p) + e.substring(e.indexOf(':') + 1);
            at[f] = p + x.h.edit(i, 1);
        }
        for (int f = 0; f < 4; f++) {
            s[f] += old[f].substring(at[f]);
        }
        return s;
    }

    private static void recipes(House x) {
        for (int k = 0; k < 5; k++) {
            String r = RECIPES[random.nextInt(RECIPES.length)];
            x.h.cut(x.h.cut(0));
            int n = x.recipe(random.nextInt(3) == 0 ? spoil(r, 1) : r);
            for (int i = 0; i < n; i++) {
                House.due("an exp", x.h.type(x.h.found(i, 0), x.h.found(i, 1)) >= 0 ? 1 : 0, 1);
                House.due("behind the last one", i == 0 || x.h.found(i, 0) > x.h.found(i - 1, 1) ? 1 : 0, 1);
            }
            String[] old = texts(x);
            if (n > 0 && x.h.put() == 0) {
                sound++;
                String[] want = edited(x, old);
                House.due("as many EDITS", x.h.edits(), n);
                x.h.apply();
                same("as by the EDITS", texts(x), want);
                x.h.undo();
                same("undone", texts(x), old);
            }
        }
    }

    private static void alike(House x) {
        for (int n = 5; n < 30; n++) {
            int pairs = x.h.alike(n);
            for (int i = 0; i < pairs; i++) {
                House.due("in order", x.h.pair(i, 0) < x.h.pair(i, 1) ? 1 : 0, 1);
                House.due("of the same tokens", x.h.token(x.h.pair(i, 0), 1), x.h.token(x.h.pair(i, 1), 1));
            }
        }
    }
}
