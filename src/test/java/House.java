import java.nio.charset.StandardCharsets;

/** A RefactorHouse with hands for texts, and a count of the answers that were not due. */
public final class House {
    static int wrong = 0;
    static int asked = 0;
    final RefactorHouse h = new RefactorHouse();

    static void due(String what, long got, long want) {
        asked++;
        if (got != want) {
            wrong++;
            System.out.println(what + ": answered " + got + ", due is " + want);
        }
    }

    static void due(String what, String got, String want) {
        asked++;
        if (!got.equals(want)) {
            wrong++;
            System.out.println(what + ": answered\n  " + got + "\ndue is\n  " + want);
        }
    }

    /** A text without its marks (@), and the bytes at which they stood. */
    static String bare(String marked) {
        return marked.replace("@", "");
    }

    static int[] marks(String marked) {
        int n = 0;
        int[] at = new int[marked.length()];
        for (int i = 0; i < marked.length(); i++) {
            if (marked.charAt(i) == '@') {
                at[n] = i - n;
                n++;
            }
        }
        return java.util.Arrays.copyOf(at, n);
    }

    /** So many times the same text. */
    static String times(int n, String s) {
        StringBuilder b = new StringBuilder();
        for (int i = 0; i < n; i++) {
            b.append(s);
        }
        return b.toString();
    }

    /** Ends the test. */
    static void end(String name) {
        System.out.println(name + ": " + asked + " answers, " + wrong + " not as due");
        if (wrong > 0) {
            System.exit(1);
        }
    }

    /** Puts a text on THE TAPE, which is empty. */
    House tape(String text) {
        byte[] b = text.getBytes(StandardCharsets.ISO_8859_1);
        int n = 0;
        for (int i = 0; i < b.length; i += 20) {
            int[] v = new int[5];
            for (int k = 0; k < 20; k++) {
                int x = i + k < b.length ? b[i + k] & 255 : 32;
                v[k / 4] = v[k / 4] << 8 | x;
            }
            n = h.feed(v[0], v[1], v[2], v[3], v[4]);
        }
        if (n > b.length) {
            h.cut(n - b.length);
        }
        return this;
    }

    int load(int f, String text) {
        tape(text);
        return h.load(f);
    }

    /** A house with this as FILE 0, which has no FAULT. */
    static House of(String text) {
        House x = new House();
        int n = x.load(0, text);
        if (n < 0) {
            due("load of " + text + " (at " + x.h.place() + ")", n, 0);
        }
        return x;
    }

    String text(int f) {
        StringBuilder s = new StringBuilder();
        for (int i = 0; i < h.size(f); i++) {
            s.append((char) h.octet(f, i));
        }
        return s.toString();
    }

    int ask(int sort, int a, int b, String name) {
        tape(name);
        return h.ask(sort, a, b);
    }

    int recipe(String text) {
        tape(text);
        return h.recipe();
    }

    String edit(int i) {
        StringBuilder s = new StringBuilder();
        s.append(h.edit(i, 0)).append('-').append(h.edit(i, 1)).append(':');
        for (int k = 0; k < h.edit(i, 2); k++) {
            s.append((char) h.edit(i, 3 + k));
        }
        return s.toString();
    }

    String numbers() {
        StringBuilder s = new StringBuilder();
        for (int i = 0; i < h.ran(0); i++) {
            s.append(i == 0 ? "" : " ").append(h.number(i));
        }
        return s.toString();
    }

    /** The answer and the place that it told: "3@17", or "0" alone. */
    String told(int answer) {
        int p = h.place();
        return p == RefactorHouse.NO ? "" + answer : answer + "@" + p;
    }
}
