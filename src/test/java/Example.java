/** A short walk through the house; README.md has the same lines. */
public final class Example {
    private static final RefactorHouse HOUSE = new RefactorHouse();

    public static void main(String[] args) {
        String program = "class M { static int twice(int n) { return n + n; } static void main() { print twice(read) * 2; } }";
        tape(program);
        System.out.println("tokens " + HOUSE.load(0) + ", ERROR " + HOUSE.judge());
        HOUSE.input(21);
        System.out.println("FAIL " + HOUSE.run(0) + ", told " + HOUSE.number(0) + ", STEPS " + HOUSE.ran(1));

        int method = program.indexOf("twice");
        System.out.println("NAMES " + HOUSE.uses(method) + ", the last one at " + HOUSE.use(method, 1));
        System.out.println("put it in: broken " + HOUSE.ask(4, method, 0) + ", at " + HOUSE.place());
        tape("dbl");
        System.out.println("call it dbl: broken " + HOUSE.ask(0, method, 0) + ", EDITS " + HOUSE.edits());
        System.out.println("steps " + HOUSE.apply() + ", runs alike " + HOUSE.twin(5, 1) + " of 5");

        tape("$x + $x -> $x * 2");
        System.out.println("found " + HOUSE.recipe() + ", broken " + HOUSE.put() + ", steps " + HOUSE.apply());
        System.out.println(text());
        System.out.println("steps " + HOUSE.undo() + ", then " + HOUSE.undo() + ", again as it was: " + text().equals(program));
    }

    /** Puts a text on THE TAPE, twenty bytes a call; what is too much of the last twenty goes. */
    private static void tape(String text) {
        int[] v = new int[5];
        for (int i = 0; i < (text.length() + 19) / 20 * 20; i++) {
            int b = i < text.length() ? text.charAt(i) & 255 : 0;
            v[i % 20 / 4] = v[i % 20 / 4] << 8 | b;
            if (i % 20 == 19) {
                HOUSE.feed(v[0], v[1], v[2], v[3], v[4]);
            }
        }
        HOUSE.cut((20 - text.length() % 20) % 20);
    }

    /** The bytes of FILE 0. */
    private static String text() {
        StringBuilder s = new StringBuilder();
        for (int i = 0; i < HOUSE.size(0); i++) {
            s.append((char) HOUSE.octet(0, i));
        }
        return s.toString();
    }
}
