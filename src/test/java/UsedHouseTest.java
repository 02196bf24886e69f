import java.util.Random;

/** A house that was used for many programs answers as a new one does: nothing of what was there before counts. */
public final class UsedHouseTest {
    private static final String[] RECIPES = {"$x + $y -> $y + $x", "$x:int -> $x", "1 -> 2", "$x == $x -> true", "!$x -> $x == false", "$x -> $z",
        "$x.f1 -> $x.f1", "((x) ->", "$x < $y -> $y > $x", "$x && $y -> !$x"};

    public static void main(String[] args) {
        Random random = new Random(7);
        House used = new House();
        for (int r = 0; r < 150; r++) {
            String text = new RandomProgram(r).text();
            text = text.substring(0, Math.min(text.length(), 3000));
            if (r % 3 == 2) {
                int at = random.nextInt(text.length());
                text = text.substring(0, at) + text.substring(Math.min(text.length(), at + 1 + random.nextInt(9)));
            }
            House fresh = new House();
            used.h.drain();
            used.load(0, "");
            int f = random.nextInt(4);
            for (int k = 0; k < 4; k++) {
                if (k != f) {
                    used.load(k, "");
                }
            }
            House.due("load", used.told(used.load(f, text)), fresh.told(fresh.load(f, text)));
            if (used.h.size(f) != fresh.h.size(f)) {
                used.load(f, "");
            }
            same(used, fresh, f, random);
            for (int k = 0; k < 6; k++) {
                change(used, fresh, f, random);
            }
            same(used, fresh, f, random);
        }
        leftovers();
        House.end("UsedHouseTest");
    }

    /** Empty blocks, params, arguments, fields without an exp where there were others; one piece of work behind another one. */
    private static void leftovers() {
        String full = "class M { static int f = t(1); static int t(int a) { print a; return a; } static void main() { { print 1; { print 2; } } "
            + "if (true) { print 3; } else { print 4; } while (f == 1) { print 5; f = 2; } int x = 6; x = t(t(x)); print x; return; } int g = 7; }";
        String bare = "class M { static int f; static int t() { { } return 8; } static void main() { { { } { } } if (true) { } else { print 9; } "
            + "while (f == 1) { } { } M x = new M(); t(); } int g; }";
        House x = new House();
        for (int i = 0; i < 9; i++) {
            // Loaded once, twice, three times: it does not count where it was read to.
            for (int k = 0; k <= i % 3; k++) {
                x.load(0, full);
            }
            House.due("run of much", x.h.run(0), 0);
            House.due("numbers", x.numbers(), "1 1 2 3 5 6 6 6");
            for (int k = 0; k <= i / 3; k++) {
                x.load(0, bare);
            }
            House.due("run of little", x.h.run(0), 0);
            House.due("numbers", x.numbers(), "");
            House.due("STEPS", x.h.ran(1), 15);
        }
        String runs = "class A { void m(int a, int b, int c, int d) { c = a; print a + b; print c + d; print d + d; } }";
        House y = House.of(runs);
        for (int i = 0; i < 3; i++) {
            House.due("found", y.recipe("$a + $b -> 1"), 3);
            House.due("alike behind a RECIPE", y.h.alike(5), 1);
            House.due("first", y.h.pair(0, 0), runs.indexOf("print a"));
            House.due("second", y.h.pair(0, 1), runs.indexOf("print c"));
            House.due("found behind alike", y.recipe("$a + $a -> 1"), 1);
            House.due("at", y.h.found(0, 0), runs.indexOf("d + d"));
            House.due("all", y.recipe("$a -> 1"), 4);
        }
    }

    private static void due(String what, int a, int b) {
        House.due("used or new: " + what, a, b);
    }

    private static void same(House used, House fresh, int f, Random random) {
        RefactorHouse a = used.h;
        RefactorHouse b = fresh.h;
        due("judge", a.judge(), b.judge());
        due("place", a.place(), b.place());
        for (int p = 10000 * f; p < 10000 * f + b.size(f); p++) {
            due("token", a.token(p, 0), b.token(p, 0));
            if (b.token(p, 0) > 0) {
                due("means", a.means(p, 0), b.means(p, 0));
                due("sort", a.means(p, 1), b.means(p, 1));
                due("uses", a.uses(p), b.uses(p));
                due("family", a.family(p), b.family(p));
                for (int q = p; q < p + 30; q++) {
                    due("type", a.type(p, q), b.type(p, q));
                }
            }
        }
        for (int i = 0; i < 3; i++) {
            int v = random.nextInt(21) - 10;
            due("input", a.input(v), b.input(v));
        }
        for (int which = 0; which < 2; which++) {
            due("run", a.run(which), b.run(which));
            for (int what = 0; what < 5; what++) {
                due("ran", a.ran(what), b.ran(what));
            }
            for (int i = 0; i < 300; i++) {
                due("number", a.number(i), b.number(i));
            }
        }
        due("twin", a.twin(2, 5), b.twin(2, 5));
        for (int n = 5; n < 20; n += 3) {
            int pairs = b.alike(n);
            due("alike", a.alike(n), pairs);
            for (int i = 0; i < pairs; i++) {
                due("pair", a.pair(i, 0) * 3 + a.pair(i, 1), b.pair(i, 0) * 3 + b.pair(i, 1));
            }
        }
        for (String r : RECIPES) {
            used.h.cut(used.h.cut(0));
            fresh.h.cut(fresh.h.cut(0));
            int n = fresh.recipe(r);
            due("recipe", used.recipe(r), n);
            due("place", a.place(), b.place());
            for (int i = 0; i < n; i++) {
                due("found", a.found(i, 0) * 3 + a.found(i, 1), b.found(i, 0) * 3 + b.found(i, 1));
            }
            due("put", a.put(), b.put());
            edits(used, fresh);
        }
    }

    private static void edits(House used, House fresh) {
        due("place", used.h.place(), fresh.h.place());
        due("edits", used.h.edits(), fresh.h.edits());
        for (int i = 0; i < fresh.h.edits(); i++) {
            House.due("used or new: EDIT", used.edit(i), fresh.edit(i));
        }
    }

    private static void change(House used, House fresh, int f, Random random) {
        used.h.cut(used.h.cut(0));
        fresh.h.cut(fresh.h.cut(0));
        int sort = random.nextInt(12);
        int kind = random.nextInt(5);
        int n = fresh.h.count(kind);
        int p = n > 0 && random.nextInt(3) > 0 ? fresh.h.told(kind, random.nextInt(n)) : 10000 * f + random.nextInt(fresh.h.size(f) + 1);
        int q = p + random.nextInt(12);
        String name = sort == 8 ? "10".substring(random.nextInt(3)) : random.nextInt(2) == 0 ? "A" : "zz";
        due("ask", used.ask(sort, p, q, name), fresh.ask(sort, p, q, name));
        edits(used, fresh);
        switch (random.nextInt(4)) {
            case 0: due("undo", used.h.undo(), fresh.h.undo()); break;
            case 1: due("redo", used.h.redo(), fresh.h.redo()); break;
            default: due("apply", used.h.apply(), fresh.h.apply()); break;
        }
        for (int k = 0; k < 4; k++) {
            House.due("used or new: text", used.text(k), fresh.text(k));
        }
    }
}
