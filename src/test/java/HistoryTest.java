/** History and twins: promises 19 (which = 1), 22, 24, 26 to 28. */
public final class HistoryTest {
    public static void main(String[] args) {
        steps();
        twelve();
        both();
        twins();
        House.end("HistoryTest");
    }

    private static void rename(House x, String to, int steps) {
        House.due("ask " + to, x.ask(0, 14, 0, to), 0);
        House.due("apply " + to, x.h.apply(), steps);
        House.due("text", x.text(0), "class A { int " + to + "; }");
    }

    private static void steps() {
        House x = House.of("class A { int f; }");
        x.load(2, "class B { }");
        House.due("nothing to undo", x.h.undo(), -2);
        House.due("nothing to redo", x.h.redo(), -2);
        rename(x, "longer", 1);
        rename(x, "g", 2);
        House.due("undo", x.h.undo(), 1);
        House.due("text", x.text(0), "class A { int longer; }");
        House.due("other FILE", x.text(2), "class B { }");
        House.due("undo", x.h.undo(), 0);
        House.due("text", x.text(0), "class A { int f; }");
        House.due("undo no more", x.h.undo(), -2);
        House.due("redo", x.h.redo(), 1);
        House.due("redo", x.h.redo(), 2);
        House.due("text", x.text(0), "class A { int g; }");
        House.due("redo no more", x.h.redo(), -2);
        House.due("undo", x.h.undo(), 1);
        // What was asked ends with an undo or redo that was done.
        House.due("ask", x.ask(0, 14, 0, "h"), 0);
        House.due("redo", x.h.redo(), 2);
        House.due("edits", x.h.edits(), 0);
        House.due("apply", x.h.apply(), -2);
        House.due("ask", x.ask(0, 14, 0, "h"), 0);
        House.due("redo NO", x.h.redo(), -2);
        House.due("edits stay", x.h.edits(), 1);
        House.due("undo", x.h.undo(), 1);
        House.due("edits", x.h.edits(), 0);
        // An apply ends what was undone.
        rename(x, "i", 2);
        House.due("redo no more", x.h.redo(), -2);
        House.due("undo", x.h.undo(), 1);
        House.due("text", x.text(0), "class A { int longer; }");
        // So does a load that changes a FILE, with all steps; another one does not.
        House.due("FAULT", x.load(1, "class"), -12);
        House.due("redo", x.h.redo(), 2);
        House.due("undo", x.h.undo(), 1);
        House.due("load", x.load(1, ""), 0);
        House.due("redo no more", x.h.redo(), -2);
        House.due("undo no more", x.h.undo(), -2);
        House.due("no program ahead", x.h.run(1), -2);
        House.due("no twin", x.h.twin(1, 1), -2);
        House.due("text", x.text(0), "class A { int longer; }");
        rename(x, "j", 1);
    }

    private static void twelve() {
        House x = House.of("class A { int f; }");
        for (int i = 0; i < 15; i++) {
            rename(x, "f" + (char) ('a' + i), Math.min(i + 1, 12));
        }
        for (int i = 11; i >= 0; i--) {
            House.due("undo", x.h.undo(), i);
            House.due("text", x.text(0), "class A { int f" + (char) ('a' + i + 2) + "; }");
        }
        House.due("undo no more", x.h.undo(), -2);
        for (int i = 1; i <= 12; i++) {
            House.due("redo", x.h.redo(), i);
            House.due("text", x.text(0), "class A { int f" + (char) ('a' + i + 2) + "; }");
        }
        House.due("redo no more", x.h.redo(), -2);
        for (int i = 0; i < 5; i++) {
            x.h.undo();
        }
        rename(x, "z", 8);
        House.due("undo", x.h.undo(), 7);
        House.due("text", x.text(0), "class A { int fj; }");
    }

    private static final String TURN =
        "class M { int f = 1; static int k() { return 5; } static void main() { int x = read; if (x < 3) print x; else print 9; } }";

    private static void both() {
        House x = House.of(TURN);
        x.h.input(2);
        House.due("ask", x.ask(3, TURN.indexOf("print x"), TURN.indexOf("; else"), "n"), 1);
        House.due("ask", x.ask(11, TURN.indexOf("if"), 0, ""), 0);
        House.due("apply", x.h.apply(), 1);
        House.due("run", x.h.run(0), 0);
        House.due("numbers", x.numbers(), "2");
        House.due("STEPS", x.h.ran(1), 5);
        House.due("run ahead", x.h.run(1), 0);
        House.due("numbers", x.numbers(), "2");
        House.due("STEPS", x.h.ran(1), 4);
        House.due("the program stays", x.h.size(0) == TURN.length() ? 1 : 0, 0);
        // Whatever else was asked since, it is the program ahead of the step that is run.
        House.due("another change", x.ask(0, 6, 0, "Other"), 0);
        House.due("run ahead", x.h.run(1), 0);
        House.due("STEPS", x.h.ran(1), 4);
        House.due("a FAULT", x.load(0, "class A { } ?"), -11);
        House.due("run ahead", x.h.run(1), 0);
        House.due("STEPS", x.h.ran(1), 4);
        House.due("another change", x.ask(0, 6, 0, "Other"), 0);
        House.due("twin", x.h.twin(4, 4), 4);
        House.due("the change stays", x.h.edits(), 1);
        House.due("run", x.h.run(1), 0);
        House.due("undo", x.h.undo(), 0);
        House.due("the run stays", x.h.ran(1), 4);
        House.due("no step that is not undone", x.h.run(1), -2);
        House.due("no twin", x.h.twin(1, 5), -2);
        // Where it failed is not told any more when the program changed.
        String bad = "class M { static int k; static void main() { print 1 / k; } }";
        House y = House.of(bad);
        House.due("run", y.h.run(0), 2);
        House.due("place", y.h.ran(4), bad.indexOf("print"));
        y.ask(0, 21, 0, "kk");
        House.due("place", y.h.ran(4), bad.indexOf("print"));
        House.due("apply", y.h.apply(), 1);
        House.due("no place", y.h.ran(4), -2);
        House.due("numbers stay", y.h.ran(1), 2);
        House.due("run ahead", y.h.run(1), 2);
        House.due("its place", y.h.ran(4), bad.indexOf("print"));
        House.due("run", y.h.run(0), 2);
        House.due("its place", y.h.ran(4), bad.indexOf("print") + 1);
        y.h.undo();
        House.due("no place", y.h.ran(4), -2);
        House.due("BAD ahead", y.h.ran(5), -1);
    }

    private static void twins() {
        House x = House.of(TURN);
        House.due("n", x.h.twin(0, 1), -1);
        House.due("n", x.h.twin(21, 1), -1);
        House.due("n ahead of NO", x.h.twin(-1, 1), -1);
        House.due("no step", x.h.twin(20, 1), -2);
        x.ask(11, TURN.indexOf("if"), 0, "");
        x.h.apply();
        x.h.run(0);
        int steps = x.h.ran(1);
        for (int n = 1; n <= 20; n++) {
            House.due("twin", x.h.twin(n, n * 1000), n);
        }
        House.due("runs of twin() are none", x.h.ran(1), steps);
        // A change that changes a run: the argument is drawn ahead of what it was drawn behind.
        String two = "class M { static int t(int a) { return a; } static void main() { int x = 2; print 7; "
            + "if (read < 0) { print x; } x = 3; } }";
        House y = House.of(two);
        // Put in x by a recipe: 2 becomes 4, which tells another number where the first input is below 0.
        House.due("recipe", y.recipe("2 -> 4"), 1);
        House.due("put", y.h.put(), 0);
        House.due("apply", y.h.apply(), 1);
        for (int seed = -5; seed < 200; seed += 7) {
            House.due("twin of seed " + seed, y.h.twin(20, seed), agreeing(seed));
        }
        y.h.run(0);
        y.load(1, "class Q { int f = true; }");
        House.due("ERRORS", y.h.twin(1, 1), -2);
        twinsDiffer("class M { static void main() { print 1; int x = 6 / 2; } }", "2 -> 0");
        twinsDiffer("class M { static void main() { int i = 0; while (i < 2) { i = i + 1; print 8; } } }", "2 -> 3");
        twinsDiffer("class M { static void main() { print 1; print 2; } }", "2 -> 3");
        twinsDiffer("class M { static void main() { print 1; M m = null; m.k(3 / 2); } void k(int a) { } }", "2 -> 0");
        // Another FAIL, or none, is a difference, too.
        House z = House.of("class M { static void main() { print 6 / 2; } }");
        House.due("recipe", z.recipe("2 -> 0"), 1);
        House.due("put", z.h.put(), 0);
        House.due("apply", z.h.apply(), 1);
        House.due("twin", z.h.twin(5, 1), 0);
    }

    /** The FAIL alone, how many numbers alone, or one number alone is another one. */
    private static void twinsDiffer(String text, String recipe) {
        House z = House.of(text);
        House.due("recipe", z.recipe(recipe), 1);
        House.due("put", z.h.put(), 0);
        House.due("apply", z.h.apply(), 1);
        House.due("twin of " + text, z.h.twin(5, 1), 0);
    }

    /** How often from the first time on the first of the eight inputs is not below 0. */
    private static int agreeing(int seed) {
        int s = seed;
        for (int n = 0; n < 20; n++) {
            for (int i = 0; i < 8; i++) {
                s = s * 1103515245 + 12345;
                int d = s >> 16 & 0x7fff;
                if (i == 0 && d % 21 - 10 < 0) {
                    return n;
                }
                if (i == 0) {
                    continue;
                }
            }
        }
        return 20;
    }
}
