/** Runs: promises 17 to 21; 19 and 22 of steps stand in HistoryTest. */
public final class RunsTest {
    public static void main(String[] args) {
        inputs();
        values();
        objects();
        order();
        steps();
        fails();
        places();
        limits();
        latest();
        House.end("RunsTest");
    }

    /** A program of which the latest run told this. */
    private static House run(String text, int fail, String numbers) {
        House x = House.of(text);
        House.due("judge of " + text + x.h.place(), x.told(x.h.judge()), "0");
        House.due("run of " + text, x.h.run(0), fail);
        House.due("numbers of " + text, x.numbers(), numbers);
        return x;
    }

    private static House body(String text, int fail, String numbers) {
        return run("class M { static void main() { " + text + " } }", fail, numbers);
    }

    private static void inputs() {
        RefactorHouse h = new RefactorHouse();
        House.due("drain of none", h.drain(), 0);
        for (int i = 1; i <= 50; i++) {
            House.due("input", h.input(i * 7), i);
        }
        House.due("input 51", h.input(1), -3);
        House.due("drain", h.drain(), 50);
        House.due("drain again", h.drain(), 0);
        House.due("input", h.input(-1), 1);
        House x = House.of("class M { static void main() { print read - read; int x = read; print x; print read; } }");
        x.h.input(-2147483648);
        x.h.input(1);
        x.h.input(9);
        House.due("run", x.h.run(0), 0);
        House.due("numbers", x.numbers(), "2147483647 9 0");
        House.due("INPUTS read", x.h.ran(3), 4);
        x.h.drain();
        House.due("INPUTS stay read", x.h.ran(3), 4);
        x.h.run(0);
        House.due("numbers", x.numbers(), "0 0 0");
        House.due("run which", x.h.run(2), -1);
        House.due("run which", x.h.run(-1), -1);
        House.due("no step", x.h.run(1), -2);
        House.due("ran what", x.h.ran(5), -1);
        House.due("ran what", x.h.ran(-1), -1);
    }

    private static void values() {
        body("print 1 + 2 * 3 - 4; print (1 + 2) * 3; print 7 / 2; print -7 / 2; print 7 % -2; print -7 % 2; print 8 - 3 - 2;",
            0, "3 9 3 -3 1 -1 3");
        body("print -7 / -2; print 100 / 7 / 2; print 100 % 7 * 2; print - -3; print -(1 - 3) + -1;", 0, "3 7 4 3 1");
        body("int m = -999999999 * 2 - 147483650; print m; print m / -1; print m % -1; print -m; print m - 1;",
            0, "-2147483648 -2147483648 0 -2147483648 2147483647");
        body("print 65536 * 65536; print 123456789 * 1000; print 007;", 0, "0 -1097262584 7");
        body("print true; print false; print !true; print 1 < 2; print 2 <= 1; print 3 > 3; print 3 >= 3; print 1 == 2;"
            + " print 1 != 2; print true == false; print null == null; print null != null;", 0, "1 0 0 1 0 0 1 0 1 0 1 0");
        body("print 1 < 2 == 3 < 4; print true || false && false; print (true || false) && false; print !false && true;"
            + " print 1 + 1 == 2 && 2 * 2 == 4 || false;", 0, "1 1 0 1 1");
        // && and || ask the right side only if need be, side by side and within one another.
        String say = "class M { static bool t(int n) { print n; return true; } static bool f(int n) { print n; return false; } "
            + "static void main() { print ";
        run(say + "f(1) && t(2); } }", 0, "1 0");
        run(say + "t(1) && f(2); } }", 0, "1 2 0");
        run(say + "t(1) || f(2); } }", 0, "1 1");
        run(say + "f(1) || f(2); } }", 0, "1 2 0");
        run(say + "f(1) && t(2) && t(3); } }", 0, "1 0");
        run(say + "f(1) && t(2) || t(3); } }", 0, "1 3 1");
        run(say + "f(1) || t(2) && f(3); } }", 0, "1 2 3 0");
        run(say + "t(1) || t(2) && f(3); } }", 0, "1 1");
        run(say + "t(1) && (f(2) || t(3)) && f(4) || t(5); } }", 0, "1 2 3 4 5 1");
        run(say + "(f(1) || f(2)) == (t(3) && t(4)); } }", 0, "1 2 3 4 0");
        run(say + "!(f(1) && t(2)) && -1 < 2; } }", 0, "1 1");
    }

    private static void objects() {
        run("class A { int f; bool g; A a; int h = f + 1; int i = h + 1; } class M { static void main() { A a = new A(); "
            + "print a.f; print a.g; print a.a == null; print a.h; print a.i; a.a = new A(); a.a.f = 5; print a.f; print a.a.f; "
            + "print a == a.a; A b = a; b.f = 7; print a.f; print a == b; } }", 0, "0 0 1 1 2 0 5 0 7 1");
        // The method of the object's class; a field by the type in front of . .
        run("class A { int f = 1; int m() { return 10; } int both() { return m() + f; } static int s() { return 3; } } "
            + "class B extends A { int f = 2; int m() { return 20; } } class C extends B { } class M { static void main() { "
            + "A a = new C(); print a.m(); print a.both(); print a.f; B b = new C(); print b.f; print new A().m(); print C.s(); } }",
            0, "20 21 1 2 10 3");
        // Which NAME( ) is meant goes by the types, not by the objects.
        run("class P { } class Q extends P { } class A { int m(P a) { return 1; } int m(Q a) { return 2; } } class B extends A { "
            + "int m(P a) { return 3; } } class M { static void main() { A a = new B(); P p = new Q(); print a.m(p); "
            + "print a.m(new Q()); print new A().m(p); } }", 0, "3 2 1");
        // Two FAMILIES of one NAME, and a class between without one.
        run("class A { int m() { return 1; } int m(int a) { return 2; } } class B extends A { } class C extends B { "
            + "int m(int a) { return m() + a; } } class D extends C { int m() { return 9; } } class M { static void main() { "
            + "A a = new D(); print a.m(); print a.m(5); a = new C(); print a.m(); print a.m(5); a = new B(); print a.m(5); } }",
            0, "9 14 1 6 2");
        // Params are values; a local of a loop is told anew each time.
        run("class M { static int f(int a, int b) { a = a + b; int c = a * 2; return c; } static void main() { int a = 1; "
            + "print f(a, 2); print a; while (a < 3) { int x = a; a = a + 1; print x; } int x = 9; print x; } }", 0, "6 1 1 2 9");
        run("class M { static void v() { } static int w() { return 9; } static void main() { int x = 5; v(); v(); print 1 + x; w(); "
            + "w(); v(); int y = 7; v(); w(); print x * 100 + y; } }", 0, "6 507");
        run("class A { A me() { return this; } bool is(A a) { return a == this; } A b; void set() { b = this; } } class M { "
            + "static void main() { A a = new A(); A c = new A(); print a.me() == a; print c.is(a); print c.is(c); c.set(); "
            + "print c.b == c; print c.b.me() == a; } }", 0, "1 0 1 1 0");
        run("class M { static int fac(int n) { if (n < 2) return 1; return n * fac(n - 1); } static int fib(int n) { "
            + "if (n < 2) return n; else return fib(n - 1) + fib(n - 2); } static void main() { print fac(10); print fib(10); "
            + "print 1 + 2 * fac(3) - fib(6) * 2; } }", 0, "3628800 55 -3");
    }

    private static void order() {
        String say = "static int t(int n) { print n; return n; } ";
        // Static fields in the order of the program, and what they mean behind it is 0.
        run("class B { static int a = M.t(M.x + 1); static int c; static int b = M.t(a + 1); } class M { static int x = t(5); "
            + say + "static void main() { print B.a + B.b + x + B.c; } }", 0, "1 2 5 8");
        // Fields of a new object: ABOVE first, in order.
        run("class B extends A { int c = M.t(3); int d = M.t(a + 10); } class A { int a = M.t(1); int b = M.t(2); } class M { "
            + say + "static void main() { B b = new B(); print b.d; } }", 0, "1 2 3 11 11");
        // e, arguments, then the call; e.f = v: e, v, then it is done.
        run("class A { int f; A me(int n) { print n; return this; } void m(int a, int b) { print a + b; } } class M { " + say
            + "static void main() { A a = new A(); a.me(1).m(t(2), t(3)); a.me(4).f = t(5); print a.f; print t(6) - t(7) * t(8); "
            + "A n = null; n.f = t(9); } }", 1, "1 2 3 5 4 5 5 6 7 8 -50 9");
        run("class A { void m(int a) { } } class M { " + say + "static void main() { A n = null; n.m(t(1)); } }", 1, "1");
        run("class A { int f; } class M { " + say + "static void main() { A n = null; print n.f + t(1); } }", 1, "");
        run("class A { int f; A a; void m() { f = 3; a.f = f; } } class M { static void main() { A x = new A(); x.a = x; x.m(); "
            + "print x.f; x.a = null; x.m(); } }", 1, "3");
        // main is the first one that is static, void, without params.
        run("class A { void main() { print 1; } static void main(int a) { print 2; } static void mainy() { print 3; } } "
            + "class B { static void main() { print 4; } } class C { static void main() { print 5; } }", 0, "4");
        run("class A { static int main() { return 1; } static void Main() { } }", 7, "");
        run("class A { static int f = B.t(); } class B { static int t() { print 8; return 1; } }", 7, "8");
        House x = new House();
        House.due("nothing", x.h.run(0), 7);
        House.due("steps", x.h.ran(1), 0);
    }

    private static void steps(String text, int steps) {
        House x = body(text, 0, "");
        House.due("STEPS of " + text, x.h.ran(1), steps);
    }

    private static void steps() {
        steps("", 1);
        steps("return;", 2);
        steps("int x = 1; x = 2;", 3);
        steps("{ }", 2);
        steps("{ { int x = 1; } }", 4);
        steps("if (true) { }", 3);
        steps("if (false) { }", 2);
        steps("if (false) { } else { { } }", 4);
        steps("if (true) if (false) { } else return;", 4);
        steps("while (false) { }", 3);
        steps("int i = 0; while (i < 3) i = i + 1;", 1 + 1 + 1 + 4 + 3);
        steps("int i = 0; while (i < 3) { i = i + 1; }", 1 + 1 + 1 + 4 + 3 * 2);
        steps("M m = new M(); m = new M();", 1 + 2 + 2);
        House x = run("class A { int f = 1; A a; static int n() { return 1; } int g = n(); } class M { static A s = new A(); "
            + "static void v() { } static void main() { v(); v(); A a = new A(); } }", 0, "");
        // new, call of n with return: 3 each; main; two S with a call; one S.
        House.due("STEPS", x.h.ran(1), 3 + 1 + 2 + 2 + 1 + 3);
        House.due("objects", x.h.ran(2), 2);
        House.due("numbers told", x.h.ran(0), 0);
    }

    private static void fails() {
        body("M m = null; print 1; m = m; print m == null; int x = 1 / 0;", 2, "1 1");
        body("print 1 % 0;", 2, "");
        body("print 0 / 1; print 0 % 5; print 1 / (1 - 1);", 2, "0 0");
        run("class M { M m; static void main() { M m = new M(); print m.m == null; print m.m.m == null; } }", 1, "1");
        run("class M { static M m; void v() { } static void main() { m.v(); } }", 1, "");
    }

    /** The run fails at the mark. */
    private static House failsAt(String marked, int fail, String numbers) {
        House x = run(House.bare(marked), fail, numbers);
        House.due("place of " + marked, x.h.ran(4), House.marks(marked).length > 0 ? House.marks(marked)[0] : -2);
        return x;
    }

    private static void places() {
        failsAt("class M { static void main() { print 1; @int x = 2 / 0; } }", 2, "1");
        failsAt("class M { static void main() { if (true) { print 1; @print 1 % 0; } } }", 2, "1");
        failsAt("class M { static void main() { int i = 3; @while (6 / i > 0) { i = i - 1; print i; } } }", 2, "2 1 0");
        failsAt("class M { static void main() { @if (1 / 0 == 1) { } } }", 2, "");
        failsAt("class M { static int f(int a) { @return 1 / a; } static void main() { print f(1); print f(0); } }", 2, "1");
        failsAt("class M { static int f(int a) { return a; } static void main() { @print f(1) / f(0); } }", 2, "");
        failsAt("class M { static int a = 1; static int @b = a / 0; static void main() { } }", 2, "");
        failsAt("class A { int a = 1; int @b = a / 0; } class M { static A s = new A(); static void main() { } }", 2, "");
        failsAt("class A { int a = M.f(0); } class M { static int f(int n) { { @return 1 / n; } } static void main() { new A().a = 1; } }",
            2, "");
        failsAt("class A { int a; } class M { static A s; static void main() { print 1; @s.a = 3; } }", 1, "1");
        failsAt("class A { static void main(int a) { } }", 7, "");
        House x = failsAt("class M { static void main() { } }", 0, "");
        House.due("4 of a good run", x.h.ran(4), -2);
        x.load(0, "class M { static void main() { print 1 / 0; } }");
        House.due("no run since the load", x.h.ran(4), -2);
        House.due("no run since the load", x.h.ran(0), -2);
        House.due("no number", x.h.number(0), 0);
    }

    private static void limits() {
        // The 20001st STEP: main, S, while, 3 for each time round with a trial of its own, the last one's trial.
        String loop = "class M { static int i; static void main() { while (i < %) i = i + 1; print i; } }";
        House x = run(loop.replace("%", "9998"), 0, "9998");
        House.due("STEPS", x.h.ran(1), 1 + 1 + 9998 * 2 + 1 + 1);
        x = failsAt(loop.replace("%", "9999").replace("while", "@while"), 3, "");
        House.due("STEPS", x.h.ran(1), 20000);
        x = failsAt(loop.replace("%", "9998").replace("print i;", "{ @print i; }"), 3, "");
        House.due("STEPS", x.h.ran(1), 20000);
        failsAt("class M { static void main() { @while (true) { } } }", 3, "");
        // 2 STEPS, then 5 for each time round: the first one within the third { is the 20001st.
        failsAt("class M { static void main() { while (true) { { @{ } { } } } } }", 3, "");
        failsAt("class M { static int i; static int f() { while (i < 9998) i = i + 1; return 1; } static int s = f(); "
            + "static void main() { } }", 3, "");
        failsAt("class M { static int i; static int f() { while (i < 9997) i = i + 1; return 1; } static int s = f(); "
            + "static void main() { print 1; @print 2; } }", 3, "1");
        House again = run("class M { static int s; static M m; static void main() { s = s + 1; print s; print m == null; "
            + "m = new M(); } }", 0, "1 1");
        again.h.run(0);
        House.due("static fields are 0 at first each time", again.numbers(), "1 1");
        // The 20001st STEP is a new, or a call: then it is not done.
        x = failsAt("class M { static int i; static void main() { while (i < 9998) i = i + 1; @M m = new M(); print 1; } }", 3, "");
        House.due("objects", x.h.ran(2), 0);
        failsAt("class M { static int i; static void f() { print 2; } static void main() { while (i < 9998) i = i + 1; @f(); } }", 3, "");
        x = failsAt("class M { static int i; static M s; void f() { } static void main() { while (i < 9998) i = i + 1; @s.f(); } }", 1, "");
        House.due("null is looked for ahead of the STEP", x.h.ran(1), 20000);
        // A call or new within 40 others.
        failsAt("class M { static void f(int n) { if (n > 0) f(n - 1); } static void main() { f(38); print 1; } }", 0, "1");
        failsAt("class M { static void f(int n) { if (n > 0) @f(n - 1); } static void main() { f(39); print 1; } }", 4, "");
        failsAt("class M { static int f(int n) { if (n > 0) return f(n - 1); return 1; } static int s = f(39); "
            + "static void main() { print s; } }", 0, "1");
        failsAt("class A { A @a = new A(); } class M { static void main() { new A().a = null; } }", 4, "");
        House y = failsAt("class A { A @a = new A(); } class M { static A a = new A(); }", 4, "");
        House.due("objects", y.h.ran(2), 40);
        House.due("STEPS", y.h.ran(1), 41);
        failsAt("class A { } class M { static void f(int n) { if (n > 0) f(n - 1); else { @A a = new A(); print 1; } } "
            + "static void main() { f(37); f(38); } }", 4, "1");
        // A new is over when its fields have their values.
        failsAt("class A { int f = 1; } class M { static void main() { int i = 0; while (i < 50) { A a = new A(); i = i + a.f; } "
            + "print i; } }", 0, "50");
        // The 401st object.
        House z = failsAt("class A { } class M { static void main() { int i = 0; while (true) { @A a = new A(); i = i + 1; "
            + "if (i % 100 == 0) print i; } } }", 5, "100 200 300 400");
        House.due("objects", z.h.ran(2), 400);
        // 192 fields each: as many as there can be.
        String fat = "";
        for (int c = 0; c < 7; c++) {
            fat += "class A" + c + (c == 0 ? "" : " extends A" + (c - 1)) + " {" + House.times(23, "int f; ").trim() + "}";
            for (int k = 0; k < 23; k++) {
                fat = fat.replaceFirst("int f;", "int f" + (char) ('a' + k) + ";");
            }
        }
        fat += "class M { static void main() { int i = 0; while (i < 400) { A6 a = new A6(); a.fw = i; i = i + 1; print a.fw; "
            + "if (i > 290) print 1 / 0; } } }";
        House w = House.of(fat);
        House.due("fat", w.h.run(0), 2);
        House.due("fat", w.h.number(290), 290);
        // The 301st number.
        House v = failsAt("class M { static void main() { int i = 0; while (true) { @print i; i = i + 1; } } }", 6,
            numbersUpTo(300));
        House.due("number 299", v.h.number(299), 299);
        House.due("number 300", v.h.number(300), 0);
        House.due("number -1", v.h.number(-1), 0);
    }

    private static String numbersUpTo(int n) {
        StringBuilder s = new StringBuilder("0");
        for (int i = 1; i < n; i++) {
            s.append(' ').append(i);
        }
        return s.toString();
    }

    private static void latest() {
        House x = run("class M { static void main() { print 3; print 4; } }", 0, "3 4");
        House.due("FAULT", x.load(0, "class"), -12);
        House.due("the run stays", x.numbers(), "3 4");
        House y = run("class M { static void main() { if (read == 0) print 1; else { print 2; print 3; print 4; } } }", 0, "1");
        y.h.input(5);
        y.h.run(0);
        House.due("three numbers", y.numbers(), "2 3 4");
        y.h.drain();
        y.h.run(0);
        House.due("one number", y.h.number(0), 1);
        House.due("one number", y.h.number(1), 0);
        House.due("one number", y.h.number(2), 0);
        x.load(1, "class A { int f = true; }");
        House.due("no run since", x.h.ran(0), -2);
        House.due("ERRORS", x.h.run(0), -2);
        x.load(1, "");
        House.due("ran", x.h.ran(1), -2);
        House.due("run", x.h.run(0), 0);
        House.due("numbers", x.numbers(), "3 4");
        House.due("FULL", x.load(0, House.times(3001, " ")), -3);
        House.due("the run stays", x.numbers(), "3 4");
    }
}
