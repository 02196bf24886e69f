/** Edges of what NAMES mean and of ERRORS, promise by promise: 9 to 16. */
public final class MeaningEdgesTest {
    private static final int LEAST = Integer.MIN_VALUE;
    private static final int MOST = Integer.MAX_VALUE;

    public static void main(String[] args) {
        classes();
        order();
        members();
        overrides();
        known();
        wanted();
        same();
        faultsBeside();
        ends();
        nearest();
        manyNearest();
        staticAndNot();
        refused();
        meanings();
        types();
        uses();
        families();
        House.end("MeaningEdgesTest");
    }

    private static void error(String marked, int error) {
        House x = House.of(House.bare(marked));
        House.due("judge of " + marked, x.told(x.h.judge()), error + "@" + House.marks(marked)[0]);
    }

    private static House fine(String text) {
        House x = House.of(text);
        House.due("judge of " + text, x.told(x.h.judge()), "0");
        return x;
    }

    private static final String AHEAD = "class P { int n; P p; static int s; int i(int a) { return a; } void v() { } static void w() { } } "
        + "class Q extends P { } class R { } class A extends P { bool b; R r; void go(int x, bool y, Q q) { ";

    private static void in(String marked, int error) {
        error(AHEAD + marked + " } }", error);
    }

    private static House fineIn(String text) {
        return fine(AHEAD + text + " } }");
    }

    // Promise 9: ERRORS 1 and 2.

    private static void classes() {
        // Eight in a row, and eight in a circle.
        fine("class A extends B { } class B extends C { } class C extends D { } class D extends E { } class E extends F { } "
            + "class F extends G { } class G extends H { } class H { }");
        error("class A extends @B { } class B extends C { } class C extends D { } class D extends E { } class E extends F { } "
            + "class F extends G { } class G extends H { } class H extends A { }", 2);
        error("class A { } class B extends @B { }", 2);
        error("class A extends @a { }", 2);
        error("class A { } class B { } class @A { } class @B { }", 1);
        // Of a class that is told twice its NAME means the first one.
        error("class A { int f; } class @A { bool f; } class B extends A { int g = f; }", 1);
        error("class B extends A { } class A { } class @A extends B { }", 1);
        error("class A extends @X { } class A { }", 2);
        error("class A { } class @A extends A { }", 1);
        // In other FILES, too.
        House x = new House();
        x.load(3, "class A { }");
        x.load(1, "class B extends A { }");
        House.due("extends in another FILE", x.told(x.h.judge()), "0");
        x.load(0, "class C extends B { } class A { }");
        House.due("told already", x.told(x.h.judge()), "1@30006");
        x.load(3, "class Z extends Z { }");
        House.due("itself", x.told(x.h.judge()), "2@30016");
        x.load(2, "class Y extends X { }");
        House.due("no class", x.told(x.h.judge()), "2@20016");
    }

    // Which of them is told.

    private static void order() {
        // 1 and 2 ahead of all others, wherever they stand.
        error("class A { X x; int f; int f; int g = true; } class B { } class @B { }", 1);
        error("class A { int f = true; } class B extends A { bool m() { } void m() { } } class C extends @D { }", 2);
        // 3, 4, 9 ahead of those of exps and S's.
        error("class A { int f = true; void m() { print q; return 1; } } class B { int g; int @g; }", 3);
        error("class A { int f = true; int m() { } } class B { void m(@X x) { } }", 4);
        error("class A { int f = new X(); void m() { } } class B extends A { int @m() { return 1; } }", 9);
        error("class A { void m() { new X().f = 1; @X x = null; } }", 4);
        // Of those the least place.
        error("class A { @X f; int f; }", 4);
        error("class A { int f; @X f; }", 4);
        error("class A { int f; int @f; X g; }", 3);
        error("class A { int m() { return 1; } } class B extends A { @X m() { return 1; } }", 4);
        error("class A { int m() { return 1; } } class B extends A { bool @m() { @X x = null; return true; } }", 9);
        // Of one place the least: 3 and 9, 5 and others.
        error("class A { int m() { return 1; } } class B extends A { int m() { return 1; } bool @m() { return true; } }", 3);
        // By FILE and byte, not by the order of loads.
        House x = new House();
        x.load(3, "class D { int f = true; }");
        x.load(1, "class B { int f = true; }");
        House.due("FILE by FILE", x.told(x.h.judge()), "7@10018");
        x.load(0, "class A { int m() { } }");
        House.due("FILE by FILE", x.told(x.h.judge()), "12@14");
    }

    private static void members() {
        error("class A { static int f; static int @f; }", 3);
        error("class A { static int m() { return 1; } int @m() { return 1; } }", 3);
        error("class A { void m(int a, bool b) { } void @m(int c, bool d) { } }", 3);
        error("class A { void m(A a) { } void n() { } void @m(A b) { } }", 3);
        error("class A { int f; int f1; int f2; int @f; int @f; }", 3);
        fine("class A { void m(int a, bool b) { } void m(bool b, int a) { } void m(A a) { } void m(B a) { } } class B extends A { }");
        fine("class A { int m; int A; int m() { return m; } int A() { return A; } }");
        fine("class A { int f; } class B extends A { int f; static int g; } class C extends B { bool f; int g; }");
        // A type: WORDS, classes, each place where one stands.
        error("class A { static @a f; }", 4);
        error("class A { static @B m(A a) { return null; } }", 4);
        error("class A { void m(int a, bool b, @C c) { } }", 4);
        error("class A { void m() { if (true) { while (true) { @C c = null; } } } }", 4);
        error("class A { void m() { if (true) @C c = null; } }", 4);
        error("class A { A a = new @a(); }", 4);
        error("class A { void m() { m(new @a()); } }", 4);
    }

    private static void overrides() {
        error("class A { int m() { return 1; } } class B extends A { } class C extends B { bool @m() { return true; } }", 9);
        error("class A { A m() { return null; } } class B extends A { B @m() { return null; } }", 9);
        error("class A { void m() { } } class B extends A { A @m() { return null; } }", 9);
        error("class A { static int m(int a) { return 1; } } class B extends A { static int @m(int b) { return 1; } }", 9);
        error("class A { static int m(B a) { return 1; } } class B extends A { int @m(B b) { return 1; } }", 9);
        // Other params' types, of heirs too, are another method.
        fine("class A { static int m(A a) { return 1; } } class B extends A { bool m(B a) { return true; } }");
        fine("class A { int m() { return 1; } } class B { bool m() { return true; } }");
        fine("class A { static void m() { } } class B extends A { static void m(int a) { } void m(bool a) { } }");
        // A type that is no class is the same as none, and no other result.
        error("class A { int m(@X x) { return 1; } int m(X x) { return 1; } }", 4);
        error("class B extends A { bool m(@X x) { return true; } } class A { int m(X x) { return 1; } }", 4);
        error("class B extends A { @X m() { return null; } } class A { int m() { return 1; } }", 4);
        error("class B extends A { static @X m() { return null; } } class A { int m() { return 1; } }", 4);
        error("class A { int m() { return 1; } } class B extends A { static @X m() { return null; } }", 4);
        error("class A { int m() { return 1; } } class B extends A { static int @m() { return 1; } X f; }", 9);
    }

    // 5 and 6.

    private static void known() {
        in("int @q = 1;", 5);
        in("{ { int @x = 1; } }", 5);
        in("while (y) { int z = 1; } if (y) { int z = 1; int @z = 1; }", 5);
        in("int z = 1; while (y) int @z = 1;", 5);
        in("int z = 1; if (y) x = 1; else int @z = 1;", 5);
        fineIn("if (y) int z = 1; else int z = 2; int z = 3;");
        fineIn("while (y) int z = 1; int z = 2; { int k = z; } int k = 2; x = k;");
        fineIn("{ int z = 1; { int k = z; x = k; } { int k = 2; x = k + z; } } { bool z = true; b = z; }");
        fineIn("int n = n; int s = s; Q p = q; int b = n + s; x = b; p = null;");
        // A local or param may have the NAME of a class: in front of . it is that, behind new or as a type the class.
        fineIn("Q A = q; Q Q = new Q(); print A.i(1) + P.s + Q.i(2); P P = A; x = P.n;");
        in("int z = @z;", 6);
        in("int z = z0(@z);", 6);
        in("{ int z = 1; } x = @z;", 6);
        in("@z = 1; int z = 1;", 6);
        in("if (y) { int z = 1; } else { x = @z; }", 6);
        in("while (y) { x = @z; int z = 1; }", 6);
        in("if (y) int z = @z;", 6);
        error("class A { int f = @x; void m(int x) { } }", 6);
        error("class A { void m(int x) { } void k() { print @x; } }", 6);
        error("class A { void m() { int x = 1; } int f = @x; }", 6);
        error("class A { void m() { print @f; } } class B extends A { int f; }", 6);
        error("class A { void m(B b) { @g(); b.g(); } } class B extends A { void g() { } }", 6);
        // A class alone is told by its NAME in front of . only.
        in("x = @P;", 6);
        in("@P = null;", 6);
        in("q = @Q;", 6);
        in("x = (@P).s;", 6);
        in("x = @P();", 6);
        in("x = q.@P.s;", 6);
        // A field or local of the class's NAME comes ahead of it, also where it can't be.
        in("int P = 1; x = @P.s;", 7);
        error("class P { static int s; } class A { int P; void m() { print @P.s; } }", 7);
        error("class P { static int s; } class A { static int P; void m() { print @P.s; } }", 7);
        error("class P { static int s; } class A { P P; void m() { print P.@s; } }", 6);
        error("class P { static int s; } class A { P P; static void m() { print @P.s; } }", 10);
        // e.NAME passes over static ones, CLASS.NAME over others.
        House x = fine("class P { int f; static int g; } class Q extends P { static bool f; bool g; } class A { void m(Q q) { "
            + "print q.f + Q.g; print Q.f; print q.g; } }");
        String t = x.text(0);
        House.due("q.f", x.h.means(t.indexOf("q.f") + 2, 0), t.indexOf("f;"));
        House.due("Q.g", x.h.means(t.indexOf("Q.g") + 2, 0), t.indexOf("g;"));
        House.due("Q.f", x.h.means(t.indexOf("Q.f") + 2, 0), t.indexOf("bool f") + 5);
        House.due("q.g", x.h.means(t.indexOf("q.g") + 2, 0), t.indexOf("bool g") + 5);
        error("class P { int f; } class Q extends P { static bool f; } class A extends Q { void m() { print @f + 1; } }", 7);
        in("print q.@s;", 6);
        in("print P.@n;", 6);
        in("P.@p.n = 1;", 6);
        in("print this.@s;", 6);
        in("print q.p.@x;", 6);
    }

    // 7.

    private static void wanted() {
        String[] ints = {"+", "-", "*", "/", "%", "<", "<=", ">", ">="};
        String[] bools = {"&&", "||"};
        String[] noInts = {"y", "q", "null", "true", "1 < 2", "(y)", "this", "new Q()", "v()"};
        String[] noBools = {"x", "q", "null", "1", "-1", "(x)", "this", "new Q()", "v()"};
        for (String op : ints) {
            for (String e : noInts) {
                if (!e.equals("1 < 2")) {
                    in("if (1 " + op + " @" + e + " == y) { }", 7);
                    in("if (@" + e + " " + op + " 1 == y) { }", 7);
                }
                in("if (1 " + op + " @(" + e + ") == y) { }", 7);
            }
        }
        for (String op : bools) {
            for (String e : noBools) {
                in("y = true " + op + " @" + e + ";", 7);
                in("y = @" + e + " " + op + " true;", 7);
            }
        }
        for (String e : noInts) {
            in("x = -@(" + e + ");", 7);
            in("x = @" + e + ";", 7);
            in("int z = @" + e + ";", 7);
        }
        for (String e : noBools) {
            in("y = !@" + (e.equals("-1") ? "(-1)" : e) + ";", 7);
            in("if (@" + e + ") { }", 7);
            in("while (@" + e + ") { }", 7);
            in("y = @" + e + ";", 7);
            in("bool z = @" + e + ";", 7);
        }
        for (String e : new String[] {"q", "null", "this", "v()", "new Q()", "(v())", "q.p"}) {
            in("print @" + e + ";", 7);
        }
        for (String e : new String[] {"x", "y", "1", "true", "null", "(null)", "v()", "w()", "i(1)", "-x", "!y", "(x + 1)"}) {
            if (!e.startsWith("-") && !e.startsWith("!")) {
                in("x = @" + e + (e.equals("1") ? " " : "") + ".n;", 7);
                in("@" + e + (e.equals("1") ? " " : "") + ".v();", 7);
                in("@" + e + (e.equals("1") ? " " : "") + ".n = 1;", 7);
            }
        }
        // Heirs FIT, those above don't.
        fineIn("P z = q; P k = this; z = q; z = k; k = null; z.p = q; r = null; r = new R(); P l = new A();");
        in("Q z = @q.p;", 7);
        in("q = @this;", 7);
        in("R z = @q;", 7);
        in("r = @new Q();", 7);
        in("q.p = @r;", 7);
        in("q.n = @q;", 7);
        in("P.s = @true;", 7);
        error("class A { int m() { return @null; } }", 7);
        error("class A { bool m() { return @1; } }", 7);
        error("class A { B m() { return @this; } } class B extends A { }", 7);
        fine("class A { A m(B b) { if (b == null) return b; return null; } } class B extends A { }");
        error("class A { B b = @new A(); } class B extends A { }", 7);
        error("class A { static bool b = @0; }", 7);
        fine("class A { A a = new B(); static A c = null; static int i = 1 - 2; bool b = !true; } class B extends A { }");
    }

    private static void same() {
        for (String op : new String[] {"==", "!="}) {
            fineIn("y = x " + op + " 1; y = y " + op + " true; y = q " + op + " q; y = q " + op + " null; y = null " + op + " q; y = null "
                + op + " null; y = this " + op + " q.p; y = q.p " + op + " this; y = r " + op + " null; y = (q) " + op + " ((null));");
            in("y = x " + op + " @y;", 7);
            in("y = y " + op + " @x;", 7);
            in("y = x " + op + " @q;", 7);
            in("y = q " + op + " @x;", 7);
            in("y = y " + op + " @q;", 7);
            in("y = q " + op + " @y;", 7);
            in("y = x " + op + " @null;", 7);
            in("y = null " + op + " @x;", 7);
            in("y = y " + op + " @null;", 7);
            in("y = null " + op + " @y;", 7);
            in("y = q " + op + " @r;", 7);
            in("y = r " + op + " @q;", 7);
            // Two heirs of one do not FIT one another.
            in("y = q " + op + " @this;", 7);
            in("y = (x) " + op + " @(y);", 7);
            // A void call: at the left one if that is one.
            in("y = @v() " + op + " x;", 7);
            in("y = x " + op + " @v();", 7);
            in("y = @v() " + op + " v();", 7);
            in("y = @(v()) " + op + " v();", 7);
            in("y = null " + op + " @v();", 7);
            in("y = @v() " + op + " null;", 7);
            in("y = q " + op + " @(v());", 7);
            // Nothing of this where one side is at fault.
            in("y = x " + op + " @z;", 6);
            in("y = v() " + op + " @z;", 6);
            in("y = @z " + op + " v();", 6);
            in("y = q " + op + " (1 + @y);", 7);
        }
        // Of equal strength the left one first: bool == int.
        in("y = 1 == 2 == @3;", 7);
        fineIn("y = 1 == 2 == y; y = 1 < 2 == 3 < 4; y = y == 1 < 2;");
        in("y = 1 < 2 == @3;", 7);
        in("y = 1 == 2 < @y;", 7);
        in("y = @1 < 2 < 3;", 7);
        in("y = !@x == 1;", 7);
        in("y = x == @!y;", 7);
        in("x = -1 + @!y;", 7);
        in("y = y && 1 < 2 && @3;", 7);
        fineIn("y = y && 1 + 2 * 3 < 4 - 5 % 6 || !y == y && -x >= x / 2; x = 1 - -1 * -(2);");
        fineIn("y = 1 < 2 + 3; y = 1 + 2 < 3; y = 2 * 3 > 1 - 1; y = 1 - 1 <= 2 * 3; y = 1 == 2 + 3; y = 1 + 2 == 3; y = y || y && y;");
        fineIn("y = 1 >= 2 == y; y = y == 1 >= 2; y = y != y && y; y = y && y != y; y = y || y == y; y = 2 / 1 != 1 * 2; y = 2 % 1 < 1;");
    }

    private static void faultsBeside() {
        // What is at fault tells no other ERROR of the exps and the S in which it stands.
        String[] holes = {"x = ~;", "y = ~;", "q = ~;", "print ~;", "if (~) { }", "while (~) { }", "return ~;", "int z = ~;", "R z = ~;",
            "~ + 1;", "1 + ~;", "-~;", "!~;", "(~);", "~ == 1;", "1 == ~;", "i(~);", "i(1, ~);", "nothing(~);", "q.nothing(~);",
            "P.nothing(~);", "v(~);", "1 + ~ == y;", "x = -~ && y;", "print ~ == null == 1;", "x = i(i(~), y);", "~.n = true;",
            "print q.i(~).n;", "while (1 + ~) { }", "1 + ~ = 2;", "(1 + ~) = 2;"};
        for (String hole : holes) {
            in(hole.replace("~", "@zzz"), 6);
            if (!hole.startsWith("~.n")) {
                in(hole.replace("~", "(1 + @zzz)"), 6);
                in(hole.replace("~", "i(@zzz)"), 6);
            }
            in(hole.replace("~", "@zzz()"), 6);
            in(hole.replace("~", "q.@zzz"), 6);
            in(hole.replace("~", "(1 == @y)"), 7);
            in(hole.replace("~", "q.@i(y)"), 8);
            in(hole.replace("~", "new @zzz()"), 4);
        }
        in("@zzz;", 6);
        in("@zzz.n;", 6);
        // What stands beside it is told, if it is at fault itself.
        in("x = @y + zzz;", 7);
        in("x = 1 - @v() * zzz;", 7);
        in("x = i(@y * 1, zzz);", 7);
        in("if (@x) print zzz;", 7);
        in("while (@1) { x = zzz; }", 7);
        in("if (y) x = @y; else x = zzz;", 7);
        in("@x.n = zzz;", 7);
        in("@v().i(zzz);", 7);
        in("q.@zzz = zzz;", 6);
        in("@(1) = zzz;", 11);
        in("@i(1) = zzz;", 11);
        in("@-x = zzz;", 11);
        in("int @x = zzz;", 5);
        in("Q @q = 1;", 5);
        error("class A { int @m() { print zzz; } }", 12);
        error("class A { int @m() { m(zzz); } int n() { return true; } }", 12);
        // What stands in another S, too.
        in("@return 1; x = zzz;", 13);
        in("{ @x; } zzz = 1;", 14);
    }

    // 11 to 14.

    private static void ends() {
        for (String front : new String[] {"1", "true", "null", "this", "read", "(x)", "((x))", "-x", "!y", "x + 1", "i(1)", "v()", "new Q()",
            "(q.n)", "q.i(1)", "x == 1", "(this.n)"}) {
            in("@" + front + " = 1;", 11);
        }
        for (String all : new String[] {"1", "true", "null", "this", "read", "x", "(x)", "-x", "!y", "x + 1", "new Q()", "q.n", "P.s",
            "(i(1))", "(v())", "-i(1)", "i(1) + 1", "n"}) {
            in("@" + all + ";", 14);
        }
        fineIn("i(1); v(); w(); q.i(1); q.v(); P.w(); new Q().i(1); (q).v(); this.v(); ((q)).p.v();");
        in("@return x;", 13);
        in("@return v();", 13);
        in("@return null;", 13);
        in("if (y) { @return (v()); }", 13);
        error("class A { int m(bool b) { if (b) @return; return 1; } }", 13);
        error("class A { A @m() { while (true) { return; } } }", 12);
        error("class A { static void m() { return @this; } }", 10);
        // Whose end can be come to.
        String[] open = {"", "print 1;", "{ }", "if (b) return 1;", "while (true) { return 1; }", "if (b) return 1; else { }",
            "if (b) { } else return 1;", "{ { } } m(b);", "if (b) { while (b) return 1; } else return 1;", "while (true) { }"};
        for (String s : open) {
            error("class A { int @m(bool b) { " + s + " } }", 12);
            fine("class A { void m(bool b) { " + s.replace("return 1", "return") + " } }");
            fine("class A { int m(bool b) { " + s + " return 2; } }");
            fine("class A { int m(bool b) { return 2; " + s + " } }");
        }
        String[] shut = {"return 1;", "{ return 1; }", "{ { print 1; return 1; } }", "if (b) return 1; else return 2;",
            "return 1; print 2;", "{ return 1; } print 2;", "if (b) { return 1; } else if (b) return 2; else return 3;",
            "while (b) { } return 1;", "if (b) { } return 1;", "{ return 1; { } }"};
        for (String s : shut) {
            fine("class A { int m(bool b) { " + s + " } }");
            error("class A { int @m(bool b) { while (b) { " + s + " } } }", 12);
            error("class A { int @m(bool b) { if (b) { " + s + " } } }", 12);
        }
        error("class A { int @m() { } void n() { } bool @k() { } }", 12);
        error("class A { static A @m() { } }", 12);
    }

    // 8 and 6 of calls.

    private static void nearest() {
        in("x = @i();", 8);
        in("x = @i(y);", 8);
        in("x = @i(1, 1);", 8);
        in("x = @i(v());", 8);
        in("x = @i(null);", 8);
        in("x = P.@i(1);", 8);
        in("q.@w();", 8);
        in("r.@v();", 6);
        in("R.@w();", 6);
        in("x = @n();", 6);
        in("x = q.@n();", 6);
        in("@go();", 8);
        in("@x();", 6);
        // Of those with so many params, the one that FITS all others.
        String three = "class P { int m(P a) { return 1; } int m(Q a) { return 2; } int m(P a, P b) { return 3; } int m(Q a, P b) { return 4; } "
            + "int m(P a, Q b) { return 5; } } class Q extends P { int m(P a) { return 6; } } class R extends Q { } "
            + "class A { void go(P p, Q q, R r) { ";
        means(three + "print p.@m(p); } }", 0);
        means(three + "print p.@m(q); } }", 1);
        means(three + "print p.@m(r); } }", 1);
        means(three + "print p.@m(null); } }", 1);
        means(three + "print q.@m(p); } }", 5);
        means(three + "print q.@m(q); } }", 1);
        means(three + "print r.@m(r); } }", 1);
        means(three + "print p.@m(p, p); } }", 2);
        means(three + "print p.@m(q, p); } }", 3);
        means(three + "print p.@m(p, q); } }", 4);
        error(three + "print p.@m(q, q); } }", 8);
        error(three + "print p.@m(null, null); } }", 8);
        error(three + "print p.@m(r, null); } }", 8);
        means(three + "print p.@m(null, p); } }", 3);
        error(three + "print p.@m(1); } }", 8);
        error(three + "print p.@m(p, 1); } }", 8);
        // One of the heir's that does not OVERRIDE, and is wider, does not come ahead.
        means("class P { } class Q extends P { } class A { int m(Q a) { return 1; } } class B extends A { int m(P a) { return 2; } "
            + "void go(Q q) { print @m(q); } }", 0);
        means("class P { } class Q extends P { } class A { int m(P a) { return 1; } } class B extends A { int m(Q a) { return 2; } "
            + "void go(P p) { print @m(p); } }", 0);
        means("class P { } class Q extends P { } class A { int m(P a) { return 1; } } class B extends A { int m(Q a) { return 2; } "
            + "void go(Q p) { print @m(p); } }", 1);
        // null FITS two classes of which none FITS the other one.
        error("class P { } class Q { } class A { int m(P a) { return 1; } int m(Q a) { return 2; } void go() { print @m(null); } }", 8);
        means("class P { } class Q { } class A { int m(P a) { return 1; } int m(Q a) { return 2; } int m(int a) { return 3; } "
            + "int m(bool a) { return 4; } void go() { print m(new P()) + m(new Q()) + m(1) + @m(true); } }", 3);
    }

    /** 36 methods of one NAME take null twice; the nearest one is told last of all. */
    private static void manyNearest() {
        StringBuilder s = new StringBuilder("class T0 { } ");
        for (int i = 1; i < 6; i++) {
            s.append("class T").append(i).append(" extends T").append(i - 1).append(" { } ");
        }
        s.append("class K extends L { int go() { return @m(null, null); } ");
        for (int i = 0; i < 36; i++) {
            s.append(i == 23 ? "} class L { " : "").append("int m(T").append(i / 6).append(" a, T").append(i % 6).append(" b) { return 1; } ");
        }
        means(s + "}", 36);
        // Without it there are two of the nearest ones, and so none.
        String two = s.substring(0, s.lastIndexOf("int m(")) + "}";
        error(two, 8);
    }

    /** The marked NAME means method k of the program. */
    private static void means(String marked, int k) {
        House x = fine(House.bare(marked));
        int at = House.marks(marked)[0];
        House.due("meant in " + marked, x.h.means(at, 0), x.h.told(2, k));
        House.due("a method", x.h.means(at, 1), 2);
    }

    // 10.

    private static void staticAndNot() {
        String ahead = "class P { int n; static int s; void v() { } static void w() { } } class A extends P { int f; static int g; A a; "
            + "int k(int a) { return 1; } static bool k(bool a) { return true; } ";
        String[][] bad = {{"print @f;", "10"}, {"print @n;", "10"}, {"@f = 1;", "10"}, {"@v();", "10"}, {"print @k(1);", "10"},
            {"print @this == null;", "10"}, {"@this.v();", "10"}, {"print @a.f;", "10"}, {"print g + @f;", "10"}, {"@a.a.f = 1;", "10"},
            {"bool b = 1 == @f;", "10"}, {"int z = @true + f;", "7"}};
        for (String[] b : bad) {
            error(ahead + "static void go() { " + b[0] + " } }", Integer.parseInt(b[1]));
        }
        fine(ahead + "static void go(A a) { print g; print s; s = 1; w(); print k(true); a.f = 1; a.v(); print a.k(1); print a.a.n; A b = a; "
            + "b.n = A.g + P.s + A.s; A.w(); int f = 1; f = f; } }");
        fine(ahead + "void go() { print f; print n; v(); print k(1); print k(true); print this.f; a.f = 1; w(); g = s; } }");
        error(ahead + "static int h = @f; }", 10);
        error(ahead + "static A h = @this; }", 10);
        error(ahead + "static int h = @k(1); }", 10);
        fine(ahead + "static bool h = k(true); static int i = new A().f; int j = f; A l = this; int m = k(1); }");
        error("class A { int f; static void m() { print @f; } static int f2 = true; }", 10);
        error("class A { B B; static void m() { print @B.s; } } class B { static int s; }", 10);
    }

    // Of ERRORS all are refused, but BAD of a what comes first.

    private static void refused() {
        House x = House.of("class A { int f = true; }");
        for (int what : new int[] {-1, 2, LEAST, MOST}) {
            House.due("means", x.h.means(14, what), -1);
            House.due("token", x.h.token(14, what), -1);
        }
        for (int what : new int[] {-1, 5, LEAST, MOST}) {
            House.due("count", x.h.count(what), -1);
            House.due("told", x.h.told(what, -1), -1);
            House.due("ran", x.h.ran(what), -1);
        }
        for (int what = 0; what < 5; what++) {
            House.due("count", x.h.count(what), -2);
            House.due("told", x.h.told(what, 0), -2);
            House.due("told", x.h.told(what, -1), -2);
        }
        House.due("means", x.h.means(14, 0), -2);
        House.due("means", x.h.means(14, 1), -2);
        House.due("type", x.h.type(18, 18), -2);
        House.due("uses", x.h.uses(14), -2);
        House.due("use", x.h.use(14, -1), -2);
        House.due("family", x.h.family(14), -2);
        House.due("judge", x.h.judge(), 7);
        x.load(0, "class A { int f = 1; }");
        House.due("uses", x.h.uses(14), 1);
        House.due("use", x.h.use(14, 0), 14);
        for (int i : new int[] {-1, 1, LEAST, MOST}) {
            House.due("use " + i, x.h.use(14, i), -1);
            House.due("use " + i + " of nothing", x.h.use(15, i), -2);
            House.due("told " + i, x.h.told(1, i), -1);
        }
    }

    // Promises 10 to 16.

    private static void meanings() {
        House x = fine("class A extends B { A f; B g(A f) { A h = f; { B i = new A(); i = h.g(f); } return A.j; } static B j = null; } class B { }");
        String t = x.text(0);
        int[][] all = {
            {t.indexOf("A"), t.indexOf("A"), 0}, {t.indexOf("B"), t.indexOf("B { }"), 0}, {t.indexOf("A f;"), 6, 0},
            {t.indexOf("f;"), t.indexOf("f;"), 1}, {t.indexOf("B g"), t.indexOf("B { }"), 0}, {t.indexOf("g("), t.indexOf("g("), 2},
            {t.indexOf("A f)"), 6, 0}, {t.indexOf("f)"), t.indexOf("f)"), 3}, {t.indexOf("A h"), 6, 0}, {t.indexOf("h ="), t.indexOf("h ="), 4},
            {t.indexOf("= f;") + 2, t.indexOf("f)"), 3}, {t.indexOf("i ="), t.indexOf("i ="), 4}, {t.indexOf("A()"), 6, 0},
            {t.indexOf("i = h"), t.indexOf("i ="), 4}, {t.indexOf("h.g"), t.indexOf("h ="), 4}, {t.indexOf("g(f)"), t.indexOf("g("), 2},
            {t.indexOf("(f)") + 1, t.indexOf("f)"), 3}, {t.indexOf("A.j"), 6, 0}, {t.indexOf("j;"), t.indexOf("j ="), 1},
            {t.indexOf("j ="), t.indexOf("j ="), 1}};
        for (int[] a : all) {
            House.due("means at " + a[0], x.h.means(a[0], 0), a[1]);
            House.due("sort at " + a[0], x.h.means(a[0], 1), a[2]);
        }
        for (String no : new String[] {"class", "extends", "{", "new", "return", "null", "static", ";", "="}) {
            House.due("no NAME: " + no, x.h.means(t.indexOf(no), 0), -2);
            House.due("nothing told: " + no, x.h.uses(t.indexOf(no)), -2);
        }
        House.due("a use tells nothing", x.h.uses(t.indexOf("= f;") + 2), -2);
        House.due("a use has no use", x.h.use(t.indexOf("= f;") + 2, 0), -2);
        // Of all such, in the order of the program: FILE by FILE.
        House y = new House();
        y.load(2, "class C { int c; void m(int p) { int l = 1; } }");
        y.load(0, "class A { }");
        y.load(1, "class B { bool b; void n(int q, int r) { { int k = 1; } } int z; }");
        int[] counts = {3, 3, 2, 3, 2};
        int[][] told = {{6, 10006, 20006}, {10015, 10062, 20014}, {10023, 20022}, {10029, 10036, 20028}, {10047, 20037}};
        for (int what = 0; what < 5; what++) {
            House.due("count " + what, y.h.count(what), counts[what]);
            for (int k = 0; k < counts[what]; k++) {
                House.due("told " + what + " " + k, y.h.told(what, k), told[what][k]);
                House.due("means itself", y.h.means(told[what][k], 0), told[what][k]);
                House.due("is such", y.h.means(told[what][k], 1), what);
            }
        }
    }

    private static void types() {
        House x = fineIn("x = i(1); v(); y = (q.p == null); y = !y; x = -x; R z = new R(); P.s = P.s + 1;");
        String t = x.text(0);
        int at = t.indexOf("x = i(1)");
        String[][] exps = {{"x", "0"}, {"i(1)", "0"}, {"1", "0"}, {"v()", "3"}, {"y", "1"}, {"(q.p == null)", "1"}, {"q.p", "10"}, {"q", "11"},
            {"q.p == null", "1"}, {"null", "2"}, {"!y", "1"}, {"-x", "0"}, {"new R()", "12"}, {"P.s", "0"}, {"P.s + 1", "0"}};
        for (String[] e : exps) {
            int from = t.indexOf(e[0], at);
            if (e[0].equals("y")) {
                from = t.indexOf("y = (");
            } else if (e[0].equals("1")) {
                from = at + 6;
            } else if (e[0].startsWith("q")) {
                from = t.indexOf("q.p ==");
            } else if (e[0].equals("P.s + 1")) {
                from = t.indexOf("P.s + 1");
            }
            int to = from + e[0].length() - 1;
            if (e[0].endsWith("null")) {
                to -= 3;
            }
            House.due("type of " + e[0], x.h.type(from, to), Integer.parseInt(e[1]));
        }
        int p = t.indexOf("P.s + 1");
        House.due("a CLASS in front of . is no exp", x.h.type(p, p), -2);
        House.due("s alone", x.h.type(p + 2, p + 2), -2);
        House.due("up to an operator", x.h.type(p, p + 4), -2);
        House.due("up to nowhere", x.h.type(p, p + 3), -2);
        House.due("from nowhere", x.h.type(p + 1, p + 2), -2);
        House.due("backwards", x.h.type(p + 6, p), -2);
        House.due("least", x.h.type(LEAST, LEAST), -2);
        House.due("most", x.h.type(MOST, MOST), -2);
        House.due("a told NAME", x.h.type(t.indexOf("z ="), t.indexOf("z =")), -2);
        House.due("a type", x.h.type(t.indexOf("R z"), t.indexOf("R z")), -2);
        House.due("an S", x.h.type(at, at + 8), -2);
        House.due("an argument's ( )", x.h.type(at + 5, at + 7), -2);
        House.due("all in front of =", x.h.type(at, at), 0);
    }

    private static void uses() {
        // In all FILES, in order, its own counted.
        House x = new House();
        x.load(3, "class C { void m(A a) { a.f = a.f + A.g; } }");
        x.load(1, "class A { int f = 1; static int g = 2; int h = f; }");
        x.load(0, "class D extends A { int i = f + g; }");
        int[] f = {28, 10014, 10047, 30026, 30032};
        House.due("uses of f", x.h.uses(10014), f.length);
        for (int i = 0; i < f.length; i++) {
            House.due("use " + i + " of f", x.h.use(10014, i), f[i]);
        }
        House.due("no use behind the last", x.h.use(10014, f.length), -1);
        int[] a = {16, 10006, 30017, 30036};
        House.due("uses of A", x.h.uses(10006), a.length);
        for (int i = 0; i < a.length; i++) {
            House.due("use " + i + " of A", x.h.use(10006, i), a[i]);
        }
        House.due("a class without a use", x.h.uses(30006), 1);
        House.due("its own", x.h.use(30006, 0), 30006);
    }

    private static void families() {
        String m = "class A { void @m() { } } class B extends A { } class C extends B { void @m() { } } class D extends C { void @m() { } } "
            + "class E extends B { void @m() { } void @m(A a) { } static void @s() { } } class F extends E { void @m(B a) { } void @m(A a) { } } "
            + "class G { void @m() { } }";
        House x = fine(House.bare(m));
        int[] sizes = {4, 4, 4, 4, 2, 1, 1, 2, 1};
        int[] at = House.marks(m);
        for (int i = 0; i < at.length; i++) {
            House.due("family " + i, x.h.family(at[i]), sizes[i]);
        }
        House.due("of a class", x.h.family(6), -2);
        House.due("of a param", x.h.family(House.bare(m).indexOf("a) {")), -2);
        House.due("nowhere", x.h.family(MOST), -2);
    }
}
