/** Edges of runs, promise by promise: 17 to 22. */
public final class RunEdgesTest {
    private static final int LEAST = Integer.MIN_VALUE;
    private static final int MOST = Integer.MAX_VALUE;

    public static void main(String[] args) {
        inputs();
        refused();
        ints();
        strengths();
        fields();
        order();
        calls();
        steps();
        stepLimit();
        depthLimit();
        objectLimit();
        numberLimit();
        failPlaces();
        again();
        big();
        twins();
        House.end("RunEdgesTest");
    }

    private static House run(String text, int fail, String numbers) {
        House x = House.of(text);
        House.due("judge of " + text, x.told(x.h.judge()), "0");
        ran(x, text, fail, numbers);
        return x;
    }

    private static void ran(House x, String what, int fail, String numbers) {
        House.due("run of " + what, x.h.run(0), fail);
        House.due("numbers of " + what, x.numbers(), numbers);
    }

    private static House main(String text, int fail, String numbers) {
        return run("class M { int f; M m; static M k; static void main() { " + text + " } }", fail, numbers);
    }

    private static void ran(House x, int numbers, int steps, int objects, int read, int at) {
        int[] want = {numbers, steps, objects, read, at};
        for (int what = 0; what < 5; what++) {
            House.due("ran " + what, x.h.ran(what), want[what]);
        }
    }

    // Promises 17 and 18.

    private static void inputs() {
        House x = House.of("class M { static void main() { int i = 0; while (i < 52) { print read; i = i + 1; } } }");
        for (int i = 0; i < 50; i++) {
            House.due("input", x.h.input(i - 25), i + 1);
        }
        House.due("FULL", x.h.input(99), -3);
        House.due("FULL again", x.h.input(99), -3);
        House.due("run", x.h.run(0), 0);
        for (int i = 0; i < 50; i++) {
            House.due("number " + i, x.h.number(i), i - 25);
        }
        House.due("behind the last one", x.h.number(50), 0);
        House.due("behind the last one", x.h.number(51), 0);
        House.due("INPUTS read", x.h.ran(3), 52);
        House.due("again from the first one", x.h.run(0), 0);
        House.due("number 0", x.h.number(0), -25);
        House.due("drain", x.h.drain(), 50);
        House.due("none", x.h.drain(), 0);
        House.due("least", x.h.input(LEAST), 1);
        House.due("most", x.h.input(MOST), 2);
        House.due("run", x.h.run(0), 0);
        House.due("least", x.h.number(0), LEAST);
        House.due("most", x.h.number(1), MOST);
        House.due("no more", x.h.number(2), 0);
        // They stay, whatever is loaded.
        x.load(0, "class M { static void main() { print read; } }");
        House.due("run", x.h.run(0), 0);
        House.due("least", x.h.number(0), LEAST);
        House.due("drain", x.h.drain(), 2);
    }

    // Promises 19 to 21: what is refused.

    private static void refused() {
        House x = main("print 5;", 0, "5");
        for (int which : new int[] {-1, 2, LEAST, MOST}) {
            House.due("run " + which, x.h.run(which), -1);
        }
        House.due("no such program", x.h.run(1), -2);
        ran(x, 1, 2, 0, 0, -2);
        House.due("number", x.h.number(0), 5);
        for (int i : new int[] {-1, 1, 299, 300, LEAST, MOST}) {
            House.due("number " + i, x.h.number(i), 0);
        }
        for (int what : new int[] {-1, 5, LEAST, MOST}) {
            House.due("ran " + what, x.h.ran(what), -1);
        }
        // The step is there, but not what is run.
        x.ask(0, 14, 0, "g");
        x.h.apply();
        House.due("run of both", x.h.run(1), 0);
        x.h.undo();
        House.due("undone", x.h.run(1), -2);
        x.load(1, "class Q { Q q = 1; }");
        House.due("ERRORS", x.h.run(0), -2);
        House.due("ERRORS", x.h.run(1), -2);
        House.due("BAD ahead of ERRORS", x.h.run(2), -1);
        House.due("ran", x.h.ran(0), -2);
        House.due("BAD ahead of NO", x.h.ran(5), -1);
    }

    // Values.

    private static void ints() {
        String least = "-(536870912 * 2) * 2";
        main("int l = " + least + "; print l; print l - 1; print -l; print l * -1; print l / -1; print l % -1; print l + l; print l * l;", 0,
            "-2147483648 2147483647 -2147483648 -2147483648 -2147483648 0 0 0");
        main("int m = 999999999 * 2 + 147483649; print m; print m + 1; print m + m; print m * m; print -m - 1; print -m - 2;", 0,
            "2147483647 -2147483648 -2 1 -2147483648 2147483647");
        main("print 7 / 3; print -7 / 3; print 7 / -3; print -7 / -3; print 7 % 3; print -7 % 3; print 7 % -3; print -7 % -3;", 0,
            "2 -2 -2 2 1 -1 1 -1");
        main("print 0 / 7; print 0 % 7; print 6 / 7; print -6 / 7; print 6 % 7; print -6 % 7; print 7 / 7; print 7 % 7;", 0, "0 0 0 0 6 -6 1 0");
        main("print 000000012; print 999999999; print 0; print -0; print 010 + 1;", 0, "12 999999999 0 0 11");
        String[] ops = {"<", "<=", ">", ">=", "==", "!="};
        int[][] pairs = {{1, 2}, {2, 1}, {2, 2}, {-1, 1}, {1, -1}, {-2, -1}, {-1, -2}, {0, 0}};
        StringBuilder s = new StringBuilder();
        StringBuilder want = new StringBuilder();
        for (int[] p : pairs) {
            boolean[] is = {p[0] < p[1], p[0] <= p[1], p[0] > p[1], p[0] >= p[1], p[0] == p[1], p[0] != p[1]};
            for (int i = 0; i < ops.length; i++) {
                s.append("print ").append(p[0]).append(ops[i]).append(p[1]).append("; ");
                want.append(want.length() == 0 ? "" : " ").append(is[i] ? 1 : 0);
            }
        }
        main(s.toString(), 0, want.toString());
        // Far apart, so that a difference would wrap.
        main("int l = " + least + "; print l < 1; print 1 < l; print l <= 1; print l > 1; print l >= 1; print l == 0; print l != 0; print l - 1 > l;",
            0, "1 0 1 0 0 0 1 1");
        main("M a = new M(); M b = new M(); M c = a; print a == b; print a != b; print a == c; print a != c; print a == null; print null != a; "
            + "print k == null; print null == null; print a.m == b.m; print true == true; print true != true; print false == false;", 0,
            "0 1 1 0 0 1 1 1 1 1 0 1");
        main("print true; print false; print !true; print !false; print !!true; print --1; print ---1; print -(-(1) - 1);", 0, "1 0 0 1 1 1 -1 2");
    }

    private static void strengths() {
        main("print 1 + 2 * 3; print 2 * 3 + 1; print 7 - 6 / 2; print 6 / 2 - 7; print 1 + 5 % 3; print 5 % 3 + 1;", 0, "7 7 4 -4 3 3");
        main("print 9 - 4 - 3; print 9 - 4 + 3; print 24 / 4 / 3; print 24 / 4 * 3; print 24 * 4 / 3; print 25 % 7 * 2; print 2 * 25 % 7; "
            + "print 100 / 7 % 4;", 0, "2 8 2 18 32 8 1 2");
        main("print -1 + 2; print -2 * 3; print -7 / 2; print -7 % 4; print 1 - -2; print 3 * -2; print -(1 + 2); print - 1 - - 1;", 0,
            "1 -6 -3 -3 3 -6 -3 0");
        main("print 1 < 2 + 3; print 1 + 2 < 3; print 2 + 3 > 4; print 4 > 2 + 3; print 1 + 2 <= 3; print 3 >= 1 + 2;", 0, "1 0 1 0 1 1");
        main("print 1 < 2 == true; print true == 1 < 2; print 1 < 2 != 2 < 1; print 1 == 2 == false; print false == (1 == 2);", 0, "1 1 1 1 1");
        main("print true == false && false; print false && false == false; print true && false == false; print 1 == 1 && 2 == 2;", 0, "0 0 1 1");
        main("print true || true && false; print false && true || true; print (true || true) && false; print false && (true || true); "
            + "print true || false == true;", 0, "1 1 0 0 1");
        main("print !true == false; print !(true == false); print !true || true; print !(true || true); print !true && false; print !false && true;",
            0, "1 1 1 0 0 1");
        main("M a = new M(); a.f = 3; print -a.f; print - a.f * 2; print -a.f - -a.f; print !(a.m == null);", 0, "-3 -6 0 0");
    }

    private static void fields() {
        // 0, false, null at first, then the exps, in order; what is behind is 0 still.
        run("class A { int a = b + 1; int b = a + 1; bool c = !d; bool d = c; A e; } class M { static int s = t + 1; static int t = s + 1; "
            + "static bool u; static A v; static void main() { A x = new A(); print x.a; print x.b; print x.c; print x.d; print x.e == null; "
            + "print s; print t; print u; print v == null; } }", 0, "1 2 1 1 1 1 2 0 1");
        // ABOVE first, whatever stands first in the program; FILES one behind the other.
        House x = new House();
        x.load(0, "class M { static int a = T.t(1); static void main() { new C().f = 0; } static int b = T.t(2); }");
        x.load(3, "class T { static int n; static int t(int i) { n = n * 10 + i; print n; return i; } static int c = t(4); }");
        x.load(1, "class C extends B { int g = T.t(8); } class A { int e = T.t(6); int f = T.t(7); static int d = T.t(3); }");
        x.load(2, "class B extends A { int f = T.t(9); }");
        ran(x, "four FILES", 0, "1 12 123 1234 12346 123467 1234679 12346798");
        // A field of the same NAME of one above is another one.
        run("class A { int f = 1; int a() { return f; } } class B extends A { int f = 2; int b() { return f; } void set() { f = 5; } } "
            + "class M { static void main() { B b = new B(); A a = b; print a.f; print b.f; print b.a(); print b.b(); b.set(); print a.f; "
            + "print b.f; a.f = 7; print b.a(); print b.b(); } }", 0, "1 2 1 2 1 5 7 5");
        // Static ones are one for all, by whatever CLASS.
        run("class A { static int s = 1; } class B extends A { static int t; } class M extends B { static void main() { s = 2; print A.s; "
            + "B.s = 3; print s; print M.s; t = A.s + 1; print B.t; } }", 0, "2 3 3 4");
        // Each object has its own, and those of one above.
        run("class A { int f; A a; } class B extends A { int g; } class M { static void main() { B x = new B(); B y = new B(); x.f = 1; y.f = 2; "
            + "x.g = 3; y.g = 4; x.a = y; print x.f; print y.f; print x.g; print y.g; print x.a.f; x.a.f = 9; print y.f; } }", 0, "1 2 3 4 2 9");
    }

    private static void order() {
        String ahead = "class A { int f; A a; int say(int n) { print n; return n; } A me(int n) { print n; return this; } "
            + "A no(int n) { print n; return null; } void two(int a, int b) { print a * 10 + b; } bool is(int n) { print n; return n > 4; } } "
            + "class M { static int say(int n) { print n; return n; } static void main() { A a = new A(); A n = null; ";
        run(ahead + "print say(1) + say(2) * say(3); } }", 0, "1 2 3 7");
        run(ahead + "print say(1) * say(2) - say(3) / say(4); } }", 0, "1 2 3 4 2");
        run(ahead + "print say(3) < say(2) == say(1) < say(0); } }", 0, "3 2 1 0 1");
        run(ahead + "a.me(1).me(2).two(say(3), say(4)); } }", 0, "1 2 3 4 34");
        run(ahead + "a.me(1).f = say(2); print a.f; } }", 0, "1 2 2");
        run(ahead + "a.me(1).me(2).f = a.me(3).say(4) + say(5); print a.f; } }", 0, "1 2 3 4 5 9");
        // null is looked for behind all of e and v, or all arguments.
        run(ahead + "a.no(1).f = say(2); } }", 1, "1 2");
        run(ahead + "a.no(1).two(say(2), say(3)); } }", 1, "1 2 3");
        run(ahead + "a.no(1).a.f = say(2); } }", 1, "1");
        run(ahead + "n.f = 1 / 0; } }", 2, "");
        run(ahead + "n.two(1, 1 % 0); } }", 2, "");
        run(ahead + "n.two(n.f, say(1)); } }", 1, "");
        run(ahead + "n.a.f = say(1); } }", 1, "");
        run(ahead + "print n.f / 0; } }", 1, "");
        run(ahead + "print say(1) / 0 + say(2); } }", 2, "1");
        run(ahead + "print 0 / say(0) + say(2); } }", 2, "0");
        // The right side of && and || only if need be, whatever would fail there.
        run(ahead + "print false && n.f == 1; print true || 1 / 0 == 1; print n == null || n.is(9); print n != null && n.a.is(9); } }", 0,
            "0 1 1 0");
        run(ahead + "print a.is(5) && a.is(3) || a.is(4) || a.is(6) && a.is(2); } }", 0, "5 3 4 6 2 0");
        run(ahead + "print a.is(5) || a.is(3) && a.is(4); print a.is(1) && a.is(3) || !a.is(2); } }", 0, "5 1 1 2 1");
        run(ahead + "print (a.is(1) || a.is(7)) && (a.is(2) || a.is(8)) == a.is(9); } }", 0, "1 7 2 8 9 1");
        run(ahead + "a.two(a.say(1) + a.say(2), a.say(3)); if (a.is(1) || a.is(5)) print 0; else print 1; } }", 0, "1 2 3 33 1 5 0");
        run(ahead + "print a.is(1) && true; print true && a.is(6); } }", 0, "1 0 6 1");
    }

    private static void calls() {
        // A method of the object's class, or the nearest one above, that is meant or OVERRIDES it.
        run("class A { int m() { return 1; } int k() { return m(); } } class B extends A { } class C extends B { int m() { return 3; } } "
            + "class D extends C { } class E extends D { int m() { return 5; } int k() { return m() + 10; } } class M { static void main() { "
            + "A a = new A(); print a.m() * 100 + a.k(); a = new B(); print a.m() * 100 + a.k(); a = new C(); print a.m() * 100 + a.k(); "
            + "a = new D(); print a.m() * 100 + a.k(); a = new E(); print a.m() * 100 + a.k(); C c = new E(); print c.m(); } }", 0,
            "101 101 303 303 515 5");
        // Of the same NAME with other params nothing OVERRIDES.
        run("class P { } class Q extends P { } class A { int m(P p) { return 1; } } class B extends A { int m(Q q) { return 2; } int m(P p) { return 3; } "
            + "} class M { static void main() { A a = new B(); print a.m(new Q()); B b = new B(); print b.m(new Q()); print b.m(new P()); "
            + "print new A().m(new Q()); } }", 0, "3 2 3 1");
        run("class A { int m() { return 1; } static int m(int a) { return 2; } int t() { return m(1) * 10 + m(); } } class B extends A { "
            + "int m() { return 3; } } class M extends B { static void main() { print new B().t(); print m(1); print M.m(2); print A.m(3); } }", 0,
            "23 2 2 2");
        // In a method without locals, with nothing else at work.
        run("class A { void v() { print 4; } int w() { return 5; } } class M { static void main() { new A().v(); new A().w(); print new A().w(); } }",
            0, "4 5");
        // Params and locals are each call's own, whatever their number.
        run("class M { static int f(int a, int b, int c) { int d = a; int e = b; d = d * 2; e = e * 3; c = c * 4; a = 9; if (b > 0) { int g = f(b - 1, "
            + "b - 1, c); d = d + g; } return d + e + c; } static void main() { int x = 1; int y = 2; int z = 3; z = f(x, y, z); y = z - y; x = y; "
            + "print x; print y; print z; } }", 0, fOf(1, 2, 3));
        run("class M { static void main() { int a = 1; int b = 2; int c = 3; b = 5; c = 6; a = 4; print a; print b; print c; { int d = 7; d = d + 1; "
            + "print d; } { int e = 9; int f = 10; f = 11; print e; print f; } a = c; print a; } }", 0, "4 5 6 8 9 11 6");
        // A result that none wants.
        run("class M { static int i; static int next() { i = i + 1; return i; } static M m() { next(); return null; } static void main() { next(); m(); "
            + "int x = 7; next(); print x; print next(); } }", 0, "7 4");
        run("class M { static bool f(int n) { while (true) { if (n < 3) { { return n == 2; } } n = n - 1; } return false; } static void main() { print f(9); "
            + "print f(1); if (f(2)) return; print 5; } }", 0, "1 0");
    }

    private static String fOf(int a, int b, int c) {
        int z = f(a, b, c);
        return (z - b) + " " + (z - b) + " " + z;
    }

    private static int f(int a, int b, int c) {
        int d = a * 2;
        int e = b * 3;
        c = c * 4;
        if (b > 0) {
            d = d + f(b - 1, b - 1, c);
        }
        return d + e + c;
    }

    // STEPS.

    private static void steps(String text, int steps) {
        House x = main(text, 0, "");
        House.due("STEPS of " + text, x.h.ran(1), steps);
    }

    private static void steps() {
        steps("", 1);
        steps("{ }", 2);
        steps("int a = 1;", 2);
        steps("int a = 1; a = 2;", 3);
        steps("k = null;", 2);
        steps("return;", 2);
        steps("return; k = null;", 2);
        steps("if (true) k = null;", 3);
        steps("if (false) k = null;", 2);
        steps("if (true) { k = null; }", 4);
        steps("if (false) k = null; else { }", 3);
        steps("if (false) k = null; else if (true) { } else { }", 4);
        steps("while (false) { }", 3);
        steps("while (k == null) k = new M();", 1 + 1 + 1 + 2 + 1);
        steps("while (k == null) { k = new M(); }", 1 + 1 + 1 + 1 + 2 + 1);
        steps("while (true) return;", 4);
        steps("k = new M();", 3);
        steps("new M().f = 1;", 3);
        steps("main(1); } static void main(int a) {", 3);
        steps("main(1); } static void main(int a) { return;", 4);
        steps("bool b = false && n() == 1; } static int n() { return 1;", 2);
        steps("bool b = true && n() == 1; } static int n() { return 1;", 4);
        House x = run("class A { int f = M.one(); A a; } class M { static int one() { return 1; } static A a = new A(); static int i = one(); "
            + "static void main() { } }", 0, "");
        ran(x, 0, 1 + 2 + 2 + 1, 1, 0, -2);
    }

    private static final String LOOP = "class A { int f; A a; static A none; static int i; static void v() { } void w() { } "
        + "static void go() { while (i < %) i = i + 1; } } class M { static void main() { A.go(); ";

    /** Behind so many STEPS. */
    private static String behind(int steps) {
        // main's call, the S and its call, the while, two of each time round, the last trial.
        int rest = steps - 5;
        return LOOP.replace("%", "" + rest / 2) + (rest % 2 == 0 ? "" : "{ } ");
    }

    private static void stepLimit() {
        for (int n = 19990; n < 20000; n++) {
            House x = run(behind(n) + "} }", 0, "");
            House.due("STEPS", x.h.ran(1), n);
        }
        int last = behind(19999).length();
        // The 20000th is done, the 20001st is not.
        ran(run(behind(19999) + "print 1; } }", 0, "1"), 1, 20000, 0, 0, -2);
        ran(run(behind(20000) + "} }", 0, ""), 0, 20000, 0, 0, -2);
        int at = behind(20000).length();
        ran(run(behind(20000) + "print read; } }", 3, ""), 0, 20000, 0, 0, at);
        ran(run(behind(19999) + "print read; print read; } }", 3, "0"), 1, 20000, 0, 1, last + 12);
        ran(run(behind(19999) + "{ } } }", 0, ""), 0, 20000, 0, 0, -2);
        ran(run(behind(19999) + "{ { } } } }", 3, ""), 0, 20000, 0, 0, last + 2);
        ran(run(behind(19999) + "if (read == 0) print 1; } }", 3, ""), 0, 20000, 0, 1, last + 15);
        ran(run(behind(19999) + "if (read == 1) print 1; } }", 0, ""), 0, 20000, 0, 1, -2);
        ran(run(behind(19999) + "while (read == 1) { } } }", 3, ""), 0, 20000, 0, 0, last);
        ran(run(behind(19998) + "while (read == 1) { } } }", 0, ""), 0, 20000, 0, 1, -2);
        ran(run(behind(19997) + "while (read == 0) { } } }", 3, ""), 0, 20000, 0, 1, behind(19997).length());
        ran(run(behind(19998) + "while (read == 0) { } } }", 3, ""), 0, 20000, 0, 1, behind(19998).length() + 18);
        ran(run(behind(19999) + "A.v(); } }", 3, ""), 0, 20000, 0, 0, last);
        ran(run(behind(19998) + "A.v(); } }", 0, ""), 0, 20000, 0, 0, -2);
        ran(run(behind(19999) + "A a = new A(); } }", 3, ""), 0, 20000, 0, 0, last);
        ran(run(behind(19998) + "A a = new A(); } }", 0, ""), 0, 20000, 1, 0, -2);
        // null is looked for ahead of the STEP, but behind the arguments.
        ran(run(behind(19999) + "A.none.w(); } }", 1, ""), 0, 20000, 0, 0, last);
        ran(run(behind(19998) + "new A().w(); } }", 3, ""), 0, 20000, 1, 0, behind(19998).length());
        // Other FAILS of the 20000th.
        ran(run(behind(19999) + "print 1 / 0; } }", 2, ""), 0, 20000, 0, 0, last);
        // main's own call has no place.
        String all = "class M { static int i; static int go() { while (i < 9998) i = i + 1; return 1; } static int f = go(); static void main() { } }";
        ran(run(all, 3, ""), 0, 20000, 0, 0, -2);
        ran(run(all.replace("9998", "9997"), 0, ""), 0, 19999, 0, 0, -2);
        String one = all.replace("return 1", "{ } return 1");
        ran(run(one, 3, ""), 0, 20000, 0, 0, one.indexOf("return 1"));
        ran(run(one.replace("9998", "9997"), 0, ""), 0, 20000, 0, 0, -2);
    }

    private static void depthLimit() {
        String text = "class A { A a; static int n; void deep(int i) { n = n + 1; if (i > 1) deep(i - 1); } static void down(int i) { n = n + 1; "
            + "if (i > 1) down(i - 1); } } class B { B b = M.more(); } class M { static int i; static B more() { if (i == 0) return null; i = i - 1; "
            + "return new B(); } static void main() { ";
        run(text + "A.down(39); print A.n; } }", 0, "39");
        House x = run(text + "A.down(40); print A.n; } }", 4, "");
        ran(x, 0, 1 + 1 + 39 * 4 + 1, 0, 0, text.indexOf("down(i - 1)"));
        run(text + "new A().deep(39); print A.n; } }", 0, "39");
        run(text + "new A().deep(40); print A.n; } }", 4, "");
        // A new that calls a method that makes a new: main, and two for each.
        run(text + "i = 18; B b = new B(); print i; } }", 0, "0");
        House y = run(text + "i = 19; B b = new B(); print i; } }", 4, "");
        House.due("at the call in a field's exp", y.h.ran(4), text.indexOf("b = M.more"));
        House.due("objects", y.h.ran(2), 20);
        // What is over counts no more.
        run(text + "A.down(39); A.down(39); B b = new B(); b = new B(); A.down(39); print A.n; } }", 0, "117");
        run(text + "int k = 0; while (k < 100) { new A().deep(2); k = k + 1; } print A.n; } }", 0, "200");
        // Arguments are worked out ahead of the call.
        run("class M { static int f(int a) { return a + 1; } static void main() { print f(f(f(f(f(f(f(f(f(f(0)))))))))); } }", 0, "10");
        // Without main around it one more.
        String field = "class A { static int down(int i) { if (i > 1) return down(i - 1); return 7; } static int f = down(%); static void main() { print f; } }";
        run(field.replace("%", "40"), 0, "7");
        House z = run(field.replace("%", "41"), 4, "");
        House.due("at the S of the call", z.h.ran(4), field.indexOf("return down"));
        House.due("STEPS", z.h.ran(1), 40 * 3 + 1);
    }

    private static void objectLimit() {
        String text = "class A { A a; } class M { static int i; static void main() { while (i < %) { i = i + 1; new A().a = null; } print i; } }";
        ran(run(text.replace("%", "400"), 0, "400"), 1, 2 + 400 * 5 + 1 + 1, 400, 0, -2);
        House x = run(text.replace("%", "401"), 5, "");
        ran(x, 0, 2 + 400 * 5 + 1 + 4, 400, 0, text.indexOf("new A") + 2);
        // The STEP, then 4, then 5.
        String both = "class A { A a; } class M { static int i; static void down(int k) { if (k > 0) down(k - 1); else new A().a = null; } "
            + "static void main() { while (i < 400) { i = i + 1; new A().a = null; } down(%); } }";
        House.due("5", House.of(both.replace("%", "37")).h.run(0), 5);
        House.due("4 ahead of 5", House.of(both.replace("%", "38")).h.run(0), 4);
        // An object counts ahead of its fields' exps.
        House y = run("class A { int f = 1 / M.z; } class M { static int z; static void main() { A a = new A(); } }", 2, "");
        House.due("it is one", y.h.ran(2), 1);
        House.due("at the field's NAME", y.h.ran(4), 14);
    }

    private static void numberLimit() {
        String text = "class M { static int i; static void main() { while (i < %) { i = i + 1; print i * i; } } }";
        House x = House.of(text.replace("%", "300"));
        House.due("300", x.h.run(0), 0);
        House.due("told", x.h.ran(0), 300);
        House.due("the last one", x.h.number(299), 90000);
        House.due("none behind", x.h.number(300), 0);
        House y = House.of(text.replace("%", "301"));
        House.due("301", y.h.run(0), 6);
        ran(y, 300, 2 + 300 * 4 + 1 + 3, 0, 0, text.indexOf("print") + 2);
        House.due("the last one", y.h.number(299), 90000);
        House.due("none behind", y.h.number(300), 0);
        // What is printed is worked out first.
        House z = House.of("class M { static int i; static void main() { while (true) { i = i + 1; print 1 / (301 - i) + read; } } }");
        House.due("2 ahead of 6", z.h.run(0), 2);
        House.due("INPUTS", z.h.ran(3), 300);
    }

    // Where it failed.

    private static void failsAt(String marked, int fail) {
        String text = House.bare(marked);
        House x = House.of(text);
        House.due("run of " + marked, x.h.run(0), fail);
        House.due("place in " + marked, x.h.ran(4), House.marks(marked).length == 0 ? -2 : House.marks(marked)[0]);
    }

    private static void failPlaces() {
        failsAt("class M { static void main() { { { @print 1 / 0; } } } }", 2);
        failsAt("class M { static void main() { @if (1 / 0 == 0) print 1; } }", 2);
        failsAt("class M { static void main() { if (false) print 1; else @print 1 % 0; } }", 2);
        failsAt("class M { static void main() { @while (1 / 0 == 0) { } } }", 2);
        failsAt("class M { static int i = 1; static void main() { @while (1 / i == 1) { i = 0; } } }", 2);
        failsAt("class M { static int i = 1; static void main() { while (i == 1) @i = 1 / (i - 1); } }", 2);
        failsAt("class M { static int f() { @return 1 / 0; } static void main() { print f(); } }", 2);
        failsAt("class M { static int f() { return 0; } static void main() { @print 1 / f(); } }", 2);
        failsAt("class M { static int f() { { } if (true) { } return 0; } static void main() { @int x = 1 / f(); } }", 2);
        failsAt("class M { M m; void v() { @m.v(); } static void main() { M a = new M(); a.v(); } }", 1);
        failsAt("class M { M m; static void main() { M a = new M(); @a.m.m = a; } }", 1);
        failsAt("class M { M m; static void main() { M a = new M(); @a = a.m.m; } }", 1);
        failsAt("class M { static int @f = 1 / 0; static void main() { } }", 2);
        failsAt("class M { static int a = 1; static int @b = 1 / (a - 1); static void main() { } }", 2);
        failsAt("class A { int @f = 1 / 0; } class M { static A a = new A(); static void main() { } }", 2);
        failsAt("class A { int f = 1; } class B extends A { int @g = 1 / (f - 1); } class M { static void main() { A a = new B(); } }", 2);
        failsAt("class A { A @a = M.none.a; } class M { static A none; static void main() { A a = new A(); } }", 1);
        failsAt("class A { int f = 1; } class M { static int @s = new A().f / 0; static void main() { } }", 2);
        failsAt("class M { void main() { } static void main(int a) { } static int Main() { return 1; } }", 7);
        failsAt("", 7);
        failsAt("class M { static int f = M.v(); static int v() { @return 1 / 0; } }", 2);
        failsAt("class M { static void main() { } }", 0);
    }

    /** One run leaves nothing behind for the next one. */
    private static void again() {
        String[][] all = {
            {"class A { int f = M.t(1); int g; } class M { static int n; static int i = t(1); static int j; static int t(int k) { n = n + k; return n; } "
                + "static void main() { print n; print i; print j; j = 5; A a = new A(); print a.f; print a.g; a.g = 7; print n; } }", "0"},
            {"class M { static int i; static void down(int n) { i = i + 1; print i; down(n - 1); } static void main() { down(1); } }", "4"},
            {"class A { A a = new A(); } class M { static int i; static void main() { print i; i = 1; A a = new A(); } }", "4"},
            {"class A { A a; int f; } class M { static A k; static void main() { print k == null; int i = 0; while (i < 399) { A a = new A(); "
                + "if (a.f != 0 || a.a != null) print 0; a.f = 9; a.a = a; i = i + 1; } k = new A(); print k.f; k = k.a; k.f = 1; } }", "1"},
            {"class M { static int i; static int f = 1 / g(); static int g() { i = i + 1; print i; return 0; } static void main() { } }", "2"},
            {"class M { static bool b = true && f() == 1; static int f() { print 3; return 1 / M.z; } static int z; static void main() { } }", "2"},
            {"class M { static void main() { int i = 0; while (true) { i = i + 1; print i; } } }", "6"},
            {"class M { static int i; static void main() { i = i + 1; while (true) i = i + read; } }", "3"},
        };
        House used = new House();
        for (int times = 0; times < 3; times++) {
            for (String[] a : all) {
                House x = House.of(a[0]);
                int fail = Integer.parseInt(a[1]);
                House.due("run of " + a[0], x.h.run(0), fail);
                String numbers = x.numbers();
                used.load(0, a[0]);
                for (int k = 0; k < 3; k++) {
                    ran(used, "the same again " + a[0], fail, numbers);
                    for (int what = 0; what < 5; what++) {
                        House.due("ran " + what, used.h.ran(what), x.h.ran(what));
                    }
                }
            }
        }
        // Many objects of many fields, time and again.
        String fat = "";
        for (int c = 0; c < 7; c++) {
            fat += "class A" + c + (c == 0 ? "" : " extends A" + (c - 1)) + " { " + numbered("int f" + c + "x", 24, "; ") + "} ";
        }
        House x = new House();
        x.load(0, fat.substring(0, fat.indexOf("class A4")));
        x.load(1, fat.substring(fat.indexOf("class A4")));
        x.load(2, "class M { static void main() { int i = 0; while (i < 400) { A6 a = new A6(); print a.f6x23 + a.f0x0 + a.f3x11; "
            + "a.f6x23 = 1; a.f0x0 = 2; a.f3x11 = 4; i = i + 1; if (i % 100 == 0) print a.f6x23 + a.f0x0 + a.f3x11; if (i > 290) { return; } } } }");
        for (int k = 0; k < 5; k++) {
            House.due("fat", x.h.run(0), 0);
            int sum = 0;
            for (int i = 0; i < x.h.ran(0); i++) {
                sum += x.h.number(i);
            }
            House.due("two of 7, all others 0", sum, 14);
            House.due("objects", x.h.ran(2), 291);
        }
    }

    private static String numbered(String head, int n, String tail) {
        StringBuilder s = new StringBuilder();
        for (int i = 0; i < n; i++) {
            s.append(head).append(i).append(tail.replace("#", "" + i));
        }
        return s.toString();
    }

    /** As many static fields, and as many methods, as there can be. */
    private static void big() {
        House x = new House();
        for (int f = 0; f < 4; f++) {
            int n = f == 3 ? 23 : 24;
            x.load(f, "class A" + f + " { " + numbered("static int a", 24, " = T.t(); ").replace("T.t", f == 0 ? "t" : "B3.t")
                .replace("static int a0 = t(); ", "static int a0 = 1; static int n() { return 1; } ").replace("static int a23 = t(); ", "")
                .replace("= t()", "= B3.t()") + "} class B" + f + " { "
                + (f == 3 ? "static int i; static int t() { i = i + 1; return i; } static void main() { print A0.a1; print A0.a22; print A1.a0; "
                + "print A3.a23; print B0.b0; print B2.b23; } " : numbered("static int b", n, " = B3.t(); ")) + "}");
        }
        House.due("judge", x.told(x.h.judge()), "0");
        House.due("static fields", x.h.count(1), 23 + 3 * 24 + 3 * 24 + 1);
        // In the order of the program: A0 but its first one, B0, A1, B1, A2, B2, A3.
        ran(x, "many static fields", 0, "1 22 47 166 23 142");
        House y = new House();
        for (int f = 0; f < 4; f++) {
            y.load(f, "class A" + f + (f == 0 ? "" : " extends B" + (f - 1)) + " { " + numbered("int a", 24, "() { return %#; } ")
                .replace("%", "" + (f + 1) * 100 + " + ") + "} class B" + f + " extends A" + f + " { "
                + numbered("int b", f == 3 ? 23 : 24, "() { return " + (f + 1) * 1000 + " + #; } ")
                + (f == 3 ? "static void main() { A0 a = new B3(); print a.a0(); print a.a23(); B3 b = new B3(); print b.b0(); print b.b22(); "
                + "print b.a5(); print new A0().a23(); } " : "") + "}");
        }
        House.due("judge", y.told(y.h.judge()), "0");
        House.due("methods", y.h.count(2), 192);
        ran(y, "many methods", 0, "400 423 4000 4022 405 123");
    }

    // Promise 22.

    private static int next(int seed) {
        return seed * 1103515245 + 12345;
    }

    private static int drawn(int seed) {
        return (seed >>> 16) % 32768 % 21 - 10;
    }

    /** The two programs agree while what is drawn does not come to this sum, nor to that one. */
    private static int agreeing(int n, int seed, int weight, int one, int other) {
        int s = seed;
        for (int k = 0; k < n; k++) {
            int sum = 0;
            for (int i = 0; i < 8; i++) {
                s = next(s);
                sum = sum * weight + drawn(s);
            }
            if (sum == one || sum == other) {
                return k;
            }
        }
        return n;
    }

    private static House changed(String text, String recipe) {
        House x = House.of(text);
        House.due("recipe", x.recipe(recipe), 1);
        House.due("put", x.told(x.h.put()), "0");
        House.due("apply", x.h.apply(), 1);
        return x;
    }

    private static void twins() {
        String sum = "class M { static void main() { int i = 0; int s = 0; while (i < 8) { s = s + read; i = i + 1; } print s == 5; } }";
        House x = changed(sum, "5 -> 6");
        for (int seed : new int[] {0, 1, -1, LEAST, MOST, 12345, 99999999, -77777, 65536, 1 << 30}) {
            for (int n = 1; n <= 20; n++) {
                House.due("twin " + n + " of seed " + seed, x.h.twin(n, seed), agreeing(n, seed, 1, 5, 6));
            }
        }
        for (int seed = 0; seed < 300; seed++) {
            House.due("twin of seed " + seed, x.h.twin(20, seed * 7919), agreeing(20, seed * 7919, 1, 5, 6));
        }
        for (int n : new int[] {0, -1, 21, LEAST, MOST}) {
            House.due("n " + n, x.h.twin(n, 1), -1);
        }
        // Behind the eight of them read is 0, each time anew.
        House y = changed("class M { static void main() { int i = 0; while (i < 8) { int x = read; i = i + 1; } print read * 3 + read; } }", "3 -> 4");
        House.due("a ninth one", y.h.twin(20, 42), 20);
        y.h.input(77);
        House.due("the INPUTS are not read", y.h.twin(20, 42), 20);
        House.due("the INPUTS stay", y.h.drain(), 1);
        // Other STEPS, INPUTS, objects are no difference; one number, one more, or the FAIL is.
        String[][] same = {{"if (read == 11) { int x = 1; }", "11 -> 12"}, {"int i = 0; while (i < 3) i = i + 1; print 1;", "3 -> 4"},
            {"int x = 2 + read; print 1;", "2 -> read"}, {"print 1 + 1;", "1 + 1 -> 2"}, {"M m = null; print 4;", "null -> new M()"},
            {"print 1; print 3 / 0;", "3 -> 4"}};
        for (String[] s : same) {
            House.due("twin of " + s[0], changed("class M { static void main() { " + s[0] + " } }", s[1]).h.twin(20, 5), 20);
        }
        String[][] other = {{"print 2; print 1; print 1;", "2 -> 3"}, {"print 1; print 2; print 1;", "2 -> 3"}, {"print 1; print 1; print 2;", "2 -> 3"},
            {"if (2 == 2 - 0) print 1;", "0 -> 1"}, {"print 1; print 1 / 2;", "2 -> 0"}, {"print 1; int x = 1 / 2;", "2 -> 0"},
            {"int i = 0; while (i < 2) { i = i + 1; print 8; }", "2 -> 3"}, {"int i = 0; while (i < 3) { i = i + 1; print 8; }", "3 -> 2"}};
        for (String[] s : other) {
            House.due("twin of " + s[0], changed("class M { static void main() { " + s[0] + " } }", s[1]).h.twin(20, 5), 0);
        }
        // Of the latest step that is not undone.
        House z = changed("class M { static void main() { print 1; } }", "1 -> 2");
        House.due("recipe", z.recipe("2 -> (2)"), 1);
        House.due("put", z.h.put(), 0);
        House.due("apply", z.h.apply(), 2);
        House.due("the second step", z.h.twin(3, 3), 3);
        z.h.undo();
        House.due("the first step", z.h.twin(3, 3), 0);
        z.h.undo();
        House.due("none", z.h.twin(3, 3), -2);
        House.due("n ahead of NO", z.h.twin(0, 3), -1);
        z.h.redo();
        House.due("the first step again", z.h.twin(3, 3), 0);
        House.due("no run", z.h.ran(0), -2);
        House.due("no number", z.h.number(0), 0);
    }
}
