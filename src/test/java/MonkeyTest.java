import java.util.Random;

/** Any call with any arguments at any time: none throws, and what is told keeps within what may be told. */
public final class MonkeyTest {
    private static final int[] ODD = {-1, 0, 1, 2, 3, 4, 5, 6, 11, 12, 20, 21, 100, 101, 300, 9999, 10000, 30000, 39999, 40000,
        Integer.MIN_VALUE, Integer.MAX_VALUE, -10000, 1 << 30};
    private static final String[] TAPES = {"", "x", "A", "zz", "while", "01", "10", "0", "1 -> 2", "$x + $y -> $y", "$x -> $x", "$x:A -> null", "->",
        "class Z { }", "class A extends A { }", "class Q { Q q = new Q(); }", "class X { int f = true; }"};

    private static Random random;
    private static House x;

    public static void main(String[] args) {
        int rounds = args.length > 0 ? Integer.parseInt(args[0]) : 150;
        for (int r = 0; r < rounds; r++) {
            random = new Random(r);
            x = new House();
            tape(new RandomProgram(r).text());
            for (int i = 0; i < 512; i++) {
                int answer = call(random.nextInt(40));
                House.due("an answer below all that there are", answer < -15 ? answer : 0, 0);
            }
        }
        House.end("MonkeyTest");
    }

    private static void tape(String text) {
        x.h.cut(x.h.cut(0));
        x.tape(text.substring(0, Math.min(3000, text.length())));
    }

    private static int any() {
        return random.nextInt(3) == 0 ? ODD[random.nextInt(ODD.length)] : random.nextInt(60);
    }

    /** Mostly a PLACE at which something is told, or found, or stands. */
    private static int place() {
        int kind = random.nextInt(6);
        int n = x.h.count(Math.min(kind, 4));
        if (kind < 5 && n > 0) {
            return x.h.told(kind, random.nextInt(n));
        }
        return random.nextInt(4) == 0 ? any() : random.nextInt(4) * 10000 + random.nextInt(1500);
    }

    private static int call(int k) {
        RefactorHouse h = x.h;
        switch (k) {
            case 0: return h.feed(any(), any(), any(), any(), any());
            case 1: return h.cut(random.nextInt(25));
            case 2: return random.nextInt(4) == 0 ? h.load(random.nextInt(6) - 1) : h.judge();
            case 3: return h.size(any());
            case 4: return h.octet(random.nextInt(5), any());
            case 5: return h.token(place(), any());
            case 6: return h.means(place(), random.nextInt(3));
            case 7: return h.type(place(), place());
            case 8: return h.count(any());
            case 9: return h.told(any(), any());
            case 10: return h.uses(place());
            case 11: return h.use(place(), any());
            case 12: return h.family(place());
            case 13: return h.input(any()) * 0;
            case 14: return h.drain();
            case 15: return h.run(random.nextInt(3));
            case 16: return Math.max(-2, h.ran(any()));
            case 17: return h.number(any()) * 0;
            case 18: return h.twin(any(), any());
            case 19: case 20: case 21: case 22: case 23: case 24:
                tape(TAPES[random.nextInt(TAPES.length)]);
                return h.ask(random.nextInt(13), place(), place());
            case 25: return h.edits();
            case 26: return h.edit(any(), any());
            case 27: case 28: return h.apply();
            case 29: return h.undo();
            case 30: return h.redo();
            case 31: case 32:
                tape(TAPES[random.nextInt(TAPES.length)]);
                return h.recipe();
            case 33: return h.found(any(), random.nextInt(3));
            case 34: case 35: return h.put();
            case 36: return h.alike(any());
            case 37: return h.pair(any(), random.nextInt(3));
            case 38:
                tape(random.nextInt(3) == 0 ? TAPES[random.nextInt(TAPES.length)] : new RandomProgram(random.nextInt(1000)).text());
                return h.load(random.nextInt(4));
            default: return Math.max(-2, h.place());
        }
    }
}
