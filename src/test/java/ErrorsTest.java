/** ERRORS and what NAMES mean: promises 5 and 9 to 16. */
public final class ErrorsTest {
    public static void main(String[] args) {
        classErrors();
        memberErrors();
        names();
        types();
        calls();
        statements();
        suppressed();
        places();
        meanings();
        families();
        House.end("ErrorsTest");
    }

    /** The ERROR of a program is at its mark. */
    private static void error(String marked, int error) {
        House x = House.of(House.bare(marked));
        House.due("judge of " + marked, x.told(x.h.judge()), error + "@" + House.marks(marked)[0]);
        House.due("again", x.told(x.h.judge()), error + "@" + House.marks(marked)[0]);
        House.due("means what ahead of ERRORS", x.h.means(6, 2), -1);
        House.due("count what ahead of ERRORS", x.h.count(5), -1);
        House.due("count what ahead of ERRORS", x.h.count(-1), -1);
        House.due("told what ahead of ERRORS", x.h.told(5, 0), -1);
        House.due("told what ahead of ERRORS", x.h.told(-1, 0), -1);
        House.due("run which ahead of ERRORS", x.h.run(2), -1);
        House.due("ask sort ahead of ERRORS", x.h.ask(12, 6, 0), -1);
        House.due("twin n ahead of ERRORS", x.h.twin(0, 1), -1);
        House.due("alike n ahead of ERRORS", x.h.alike(4), -1);
        House.due("token for all ERRORS", x.h.token(0, 0), 5);
        House.due("means with ERRORS", x.h.means(6, 0), -2);
        House.due("count with ERRORS", x.h.count(0), -2);
        House.due("told with ERRORS", x.h.told(0, 99), -2);
        House.due("uses with ERRORS", x.h.uses(6), -2);
        House.due("use with ERRORS", x.h.use(6, 99), -2);
        House.due("family with ERRORS", x.h.family(6), -2);
        House.due("type with ERRORS", x.h.type(6, 6), -2);
        House.due("run with ERRORS", x.h.run(0), -2);
        House.due("ask with ERRORS", x.h.ask(0, 6, 0), -2);
        House.due("recipe with ERRORS", x.h.recipe(), -2);
        House.due("put with ERRORS", x.h.put(), -2);
        House.due("alike with ERRORS", x.h.alike(5), -2);
        House.due("twin with ERRORS", x.h.twin(1, 1), -2);
    }

    private static void fine(String text) {
        House x = House.of(text);
        House.due("judge of " + text, x.told(x.h.judge()), "0");
    }

    private static final String HOUSE = "class B { int f; static int s; bool b; B e; int m(int x) { return x; } "
        + "static int t(int x) { return x; } void v() { } static void w() { } } class C extends B { B up; } class D { } ";

    /** In a method that is not static, of an heir of B. */
    private static void in(String marked, int error) {
        error(HOUSE + "class A extends B { int i; bool q; void go(int p, D d, C c) { " + marked + " } }", error);
    }

    private static void fineIn(String text) {
        fine(HOUSE + "class A extends B { int i; bool q; void go(int p, D d, C c) { " + text + " } }");
    }

    /** In a static method. */
    private static void inStatic(String marked, int error) {
        error(HOUSE + "class A extends B { int i; static int j; static void go(int p, D d, C c) { " + marked + " } }", error);
    }

    private static void classErrors() {
        error("class A { } class @A { }", 1);
        error("class A { } class @A extends X { }", 1);
        error("class A extends @X { }", 2);
        error("class A extends @A { }", 2);
        error("class A extends @B { } class B extends A { }", 2);
        error("class C extends A { } class A extends @B { } class B extends A { }", 2);
        error("class A extends @B { } class B extends C { } class C extends A { } class C { }", 2);
        // Of classes alone, though others are ahead of them.
        error("class A { X x; int f; int f; } class @A { }", 1);
        error("class A { int f = true; } class B extends @X { }", 2);
        fine("class A extends B { } class B extends C { } class C { }");
    }

    private static void memberErrors() {
        error("class A { int f; bool @f; }", 3);
        error("class A { int f; static int @f; }", 3);
        error("class A { void m(int a) { } int @m(int b) { return 1; } }", 3);
        fine("class A { int m; void m(int a) { } void m(bool a) { } void m() { } }");
        fine("class A { int f; } class B extends A { bool f; static int g; }");
        error("class A { @X f; }", 4);
        error("class A { @X m() { } }", 4);
        error("class A { void m(@X a) { } }", 4);
        error("class A { void m() { @X a = null; } }", 4);
        error("class A { int f = true; void m() { @X a = null; } }", 4);
        error("class A { int f = new @X(); }", 4);
        error("class A { int f = new @X(); int g = true; }", 4);
        error("class A { int f = @true; } class B { int g = new X(); }", 7);
        // 9: another result; one static, or both.
        error("class A { int m(int a) { return 1; } } class B extends A { bool @m(int b) { return true; } }", 9);
        error("class B extends A { bool @m(int b) { return true; } } class A { int m(int a) { return 1; } }", 9);
        error("class A { void m() { } } class B extends A { static void @m() { } }", 9);
        error("class A { static void m() { } } class B extends A { void @m() { } }", 9);
        error("class A { static void m() { } } class B extends A { } class C extends B { static void @m() { } }", 9);
        fine("class A { void m() { } } class B extends A { void m() { } static void m(int a) { } }");
        fine("class A { int m(A a) { return 1; } } class B extends A { bool m(B b) { return true; } }");
        // A type that is no class is the same as none, and no other result.
        error("class B extends A { void m(@X a) { } } class A { int m(X a) { return 1; } }", 4);
        error("class B extends A { int m() { return 1; } } class A { @X m() { return 1; } }", 4);
        error("class B extends A { int @m() { return 1; } } class A { static X m() { return 1; } }", 9);
    }

    private static void names() {
        in("int @p = 1;", 5);
        in("int x = 1; { int @x = 2; }", 5);
        in("int x = 1; bool @x = 2;", 5);
        error("class A { void m(int a, bool @a) { } }", 5);
        fineIn("{ int x = 1; } int x = 2; if (q) { int y = 1; } else { int y = 2; }");
        fineIn("int i = i; int f = i; print i + f;");
        fineIn("if (q) int y = 1; int y = 2; while (q) int z = 1;");
        in("if (q) int y = 1; print @y;", 6);
        in("{ int y = 1; } print @y;", 6);
        in("int y = @y;", 6);
        in("print @nothing;", 6);
        in("print @D;", 6);
        in("@D = null;", 6);
        in("print @go;", 6);
        in("print @nothing();", 6);
        in("print D.@x;", 6);
        in("print e.@s;", 6);
        in("print B.@f;", 6);
        in("print d.@nothing;", 6);
        in("d.@nothing();", 6);
        in("print (@B).s;", 6);
        in("print @up;", 6);
        fineIn("print s + B.s + A.s + f + e.f + this.f; A.s = 1; c.up = c;");
        // A field hides a class of its NAME, a static one of an heir does not hide from e. .
        fine("class A { B A; static int s; void m() { print A.f; } } class B { int f; }");
        fine("class A { int f; } class B extends A { static bool f; } class C { void m(B b) { print b.f + 1; } }");
        fine("class A { static int f; } class B extends A { bool f; } class C { void m() { print B.f + 1; } }");
        error("class A { B A; static int s; void m() { print A.@s; } } class B { int f; }", 6);
        // 10.
        inStatic("print @i;", 10);
        inStatic("@f = 1;", 10);
        inStatic("@this.f = 1;", 10);
        inStatic("print @m(1);", 10);
        inStatic("@v();", 10);
        error("class A { int f; static int s = @f; }", 10);
        error("class A { A a; static A s = @this; }", 10);
        fine(HOUSE + "class A extends B { static int j = t(s); static void go(A a) { a.v(); w(); j = s; a.f = t(1); } }");
        // A NAME that means a field that is not static is no class, even where it can't be.
        error("class A { B C; static void m() { print @C.s; } } class B { } class C { static int s; }", 10);
    }

    private static void types() {
        in("int x = @true;", 7);
        in("bool x = @1;", 7);
        in("bool x = @null;", 7);
        in("int x = @d;", 7);
        in("C x = @e;", 7);
        in("D x = @this;", 7);
        fineIn("B x = c; B y = this; D z = null; D w = d;");
        in("print @true + 1;", 7);
        in("print 1 - @q;", 7);
        in("print 1 * @(q);", 7);
        in("print -@q;", 7);
        in("print !@p;", 7);
        in("print 1 < @q;", 7);
        in("print @q >= 1;", 7);
        in("print q && @1;", 7);
        in("print @1 || q;", 7);
        in("print 1 / @null;", 7);
        in("print @this % 2;", 7);
        fineIn("print 1 + 2 * 3 - 4 / 5 % 6; print 1 < 2 && 3 >= 4 || !(q == b); print -p == 1;");
        in("print 1 == @q;", 7);
        in("print q != @1;", 7);
        in("print 1 == @null;", 7);
        in("print d == @c;", 7);
        in("print d != @1;", 7);
        in("print null == @true;", 7);
        in("print @v() == 1;", 7);
        in("print @v() == v();", 7);
        in("print 1 == @v();", 7);
        in("print c == @v();", 7);
        fineIn("print c == this.e; print e != c; print null == c; print d != null; print null == null;");
        in("if (@1) v();", 7);
        in("while (@null) v();", 7);
        in("if (@v()) v();", 7);
        in("print @null;", 7);
        in("print @c;", 7);
        in("print @v();", 7);
        in("print @(v());", 7);
        in("p = @q;", 7);
        in("c = @e;", 7);
        in("e.f = @c;", 7);
        in("p = @v();", 7);
        in("int x = @v();", 7);
        in("print @p.f;", 7);
        in("print @1 .f;", 7);
        in("print @null.f;", 7);
        in("print @(null).f;", 7);
        in("print @v().f;", 7);
        in("print @c.up.f.b;", 7);
        in("print @(c.f).m(1);", 7);
        error("class A { int f = @true; }", 7);
        error("class A { static A f = @new B(); } class B { }", 7);
        error("class A { int m() { return @true; } }", 7);
        error("class A { int m() { return @v(); } void v() { } }", 7);
        error("class A { A m() { return @null == null; } }", 7);
        fine("class A { A m() { return null; } A n() { return new B(); } } class B extends A { }");
        fine("class B extends A { A m() { return new B(); } } class A extends C { C n() { return new B(); } } class C { }");
        error("class B extends A { B m() { return @new A(); } } class A { }", 7);
    }

    private static void calls() {
        in("print @m();", 8);
        in("print @m(q);", 8);
        in("print @m(1, 2);", 8);
        in("print @m(v());", 8);
        in("print e.@t(1);", 8);
        in("print B.@m(1);", 8);
        in("e.@w();", 8);
        in("B.@v();", 8);
        fineIn("print m(1) + t(2) + e.m(3) + B.t(4) + A.t(5) + this.m(6); v(); w(); c.v(); C.w();");
        // The nearest one by its params' types; none is nearest of two that cross.
        String two = "class P { } class Q extends P { } class A { int m(P a, Q b) { return 1; } bool m(Q a, P b) { return q; } "
            + "bool q; int n(P a) { return 1; } bool n(Q a) { return q; } void go(P p, Q r) { ";
        error(two + "print @m(r, r); } }", 8);
        fine(two + "print m(p, r) + 1; q = m(r, p); q = n(r); print n(p) + 1; q = n(null); } }");
        error(two + "print @m(null, null); } }", 8);
        // What OVERRIDES takes the place of what it OVERRIDES; the nearer class alone does not help.
        fine("class P { } class Q extends P { } class A { int m(Q a) { return 1; } } class B extends A { "
            + "bool m(P a) { return true; } int m(Q a) { return 2; } void go(Q r) { print m(r) + 1; } }");
        fine("class P { } class Q extends P { } class A { int m(Q a) { return 1; } } class B extends A { "
            + "bool m(P a) { return true; } void go(Q r) { print m(r) + 1; } }");
        // Static and other ones by a NAME alone.
        error("class P { } class Q extends P { } class A { int m(Q a) { return 1; } static bool m(P a) { return true; } "
            + "static void go(Q q, P p) { print m(p); print @m(q); } }", 10);
    }

    private static void statements() {
        in("@1 = 2;", 11);
        in("@(p) = 2;", 11);
        in("@v() = 2;", 11);
        in("@this = c;", 11);
        in("@-p = 2;", 11);
        in("@p + 1 = 2;", 11);
        in("@new C() = c;", 11);
        in("@(c.f) = 1;", 11);
        fineIn("p = 1; f = 2; s = 3; c.f = 4; B.s = 5; (c).f = 6; new C().up.f = 7; c.up = null;");
        error("class A { int @m() { } }", 12);
        error("class A { int @m(bool b) { if (b) return 1; } }", 12);
        error("class A { int @m(bool b) { while (b) return 1; } }", 12);
        error("class A { int @m(bool b) { if (b) return 1; else { if (b) return 2; } } }", 12);
        fine("class A { int m(bool b) { if (b) return 1; else { { return 2; } } } }");
        fine("class A { int m(bool b) { return 1; print 2; } int n() { { return 1; } { } } }");
        in("@return 1;", 13);
        in("@return v();", 13);
        error("class A { int m() { @return; } }", 13);
        fineIn("return;");
        in("@1 + 2;", 14);
        in("@p;", 14);
        in("@c.f;", 14);
        in("@(v());", 14);
        in("@new D();", 14);
        in("@-m(1);", 14);
        fineIn("v(); m(1); c.m(1); (c).m(2); new C().v(); B.t(1);");
    }

    private static void suppressed() {
        // What is at fault tells no other ERROR of what it stands in, though that is told ahead of it.
        in("1 + @x;", 6);
        in("print (1 + @x) && true;", 6);
        in("print 1 + @x == q;", 6);
        in("p = 1 + @x;", 6);
        in("return @x;", 6);
        in("1 + @x = 2;", 6);
        in("m(@x, 1);", 6);
        in("nothing(@x);", 6);
        in("d.nothing(@x);", 6);
        in("print -@x;", 6);
        in("print (1 == @x) + 1;", 6);
        in("print 1 == (@true + 1);", 7);
        in("while (1 + @x) v();", 6);
        in("print -@true && q;", 7);
        in("print 1 + @true && q;", 7);
        in("print 1 == @q && p;", 7);
        in("q = 1 + @v().f;", 7);
        // What stands beside it and is at fault itself.
        in("print @true + x;", 7);
        in("print @1 && x;", 7);
        in("m(@true + 1, x);", 7);
        in("@1 = x;", 11);
        in("int @p = x;", 5);
        error("class A { int @m() { print x; } }", 12);
        in("@v().m(x);", 7);
        in("if (@1) { print x; }", 7);
        in("@return 1; print x;", 13);
        // Of one place the least.
        error("class A { int @m() { } bool m(int a) { } }", 12);
        in("@x = 1;", 6);
        in("@x.y = 1;", 6);
        in("@x + 1;", 6);
    }

    private static void places() {
        // By FILE and byte.
        House x = new House();
        x.load(2, "class A { int f = true; }");
        x.load(1, "class B { int f; int f; }");
        x.load(3, "class C { X x; int f = true; }");
        House.due("members ahead", x.told(x.h.judge()), "3@10021");
        x.load(1, "");
        House.due("members ahead", x.told(x.h.judge()), "4@30010");
        x.load(3, "class C { }");
        House.due("the exp", x.told(x.h.judge()), "7@20018");
        x.load(2, "class A extends C { }");
        House.due("none", x.told(x.h.judge()), "0");
        x.load(0, "class A { }");
        House.due("told already in FILE 0", x.told(x.h.judge()), "1@20006");
    }

    private static void meanings() {
        String m = "class @A extends @B { @A @f = null; int g(@A @p) { @A @q = @p; { int @r = @B.@s; @r = @q.g(@f) + g(this); } "
            + "return new @A().g(@q); } } class @B { static int @s; }";
        House x = House.of(House.bare(m));
        int[] at = House.marks(m);
        // 0 A 1 B 2 A 3 f 4 A 5 p 6 A 7 q 8 p 9 r 10 B 11 s 12 r 13 q 14 f 15 A 16 q 17 B 18 s
        int[] told = {0, 17, 0, 3, 0, 5, 0, 7, 5, 9, 17, 18, 9, 7, 3, 0, 7, 17, 18};
        int[] kind = {0, 0, 0, 1, 0, 3, 0, 4, 3, 4, 0, 1, 4, 4, 1, 0, 4, 0, 1};
        for (int i = 0; i < at.length; i++) {
            House.due("means " + i, x.h.means(at[i], 0), at[told[i]]);
            House.due("sort of " + i, x.h.means(at[i], 1), kind[i]);
            House.due("what", x.h.means(at[i], 2), -1);
            House.due("what", x.h.means(at[i], -1), -1);
            int uses = 0;
            for (int k = 0; k < at.length; k++) {
                if (told[k] == i) {
                    House.due("use " + uses + " of " + i, x.h.use(at[i], uses), at[k]);
                    uses++;
                }
            }
            House.due("uses of " + i, x.h.uses(at[i]), uses == 0 ? -2 : uses);
            House.due("use behind the last", x.h.use(at[i], uses), uses == 0 ? -2 : -1);
            House.due("use -1", x.h.use(at[i], -1), uses == 0 ? -2 : -1);
        }
        int g = House.bare(m).indexOf("g(");
        House.due("a method", x.h.means(g, 1), 2);
        House.due("uses of a method", x.h.uses(g), 4);
        House.due("no NAME", x.h.means(0, 0), -2);
        House.due("within a NAME", x.h.means(1, 0), -2);
        House.due("nowhere", x.h.means(-1, 0), -2);
        House.due("what ahead of NO", x.h.means(-1, 5), -1);
        int[] counts = {2, 2, 1, 1, 2};
        int[][] all = {{0, 17}, {3, 18}, {}, {5}, {7, 9}};
        for (int k = 0; k < 5; k++) {
            House.due("count " + k, x.h.count(k), counts[k]);
            for (int i = 0; i < all[k].length; i++) {
                House.due("told " + k, x.h.told(k, i), at[all[k][i]]);
            }
            House.due("told behind the last", x.h.told(k, counts[k]), -1);
            House.due("told -1", x.h.told(k, -1), -1);
        }
        House.due("told method", x.h.told(2, 0), g);
        House.due("count 5", x.h.count(5), -1);
        House.due("count -1", x.h.count(-1), -1);
        House.due("told 5", x.h.told(5, 0), -1);
        typesOfExps();
    }

    private static void typesOfExps() {
        String m = "class A { int f = @(1 + @2) * @3; bool b = @4 @< 5; A a = @null; void v() { @v(); @B.t().f = @this.a@.a.f; "
            + "print @(@(f)) == -@1; } } class B { static A t() { return @new A@(); } }";
        House x = House.of(House.bare(m));
        int[] at = House.marks(m);
        String t = House.bare(m);
        House.due("(1 + 2)", x.h.type(at[0], t.indexOf(") *")), 0);
        House.due("(1 + 2) * 3", x.h.type(at[0], at[2]), 0);
        House.due("2 * 3 is none", x.h.type(at[1], at[2]), -2);
        House.due("2", x.h.type(at[1], at[1]), 0);
        House.due("4 < 5", x.h.type(at[3], at[3] + 4), 1);
        House.due("4 <", x.h.type(at[3], at[4]), -2);
        House.due("null", x.h.type(at[5], at[5]), 2);
        House.due("v()", x.h.type(at[6], at[6] + 2), 3);
        House.due("v", x.h.type(at[6], at[6]), -2);
        House.due("B", x.h.type(at[7], at[7]), -2);
        House.due("B.t()", x.h.type(at[7], at[7] + 4), 10);
        House.due("B.t().f", x.h.type(at[7], at[7] + 6), 0);
        House.due("this", x.h.type(at[8], at[8]), 10);
        House.due("this.a", x.h.type(at[8], at[9] - 1), 10);
        House.due("this.a.a", x.h.type(at[8], at[9] + 1), 10);
        House.due("a.a", x.h.type(at[9] - 1, at[9] + 1), -2);
        House.due("((f))", x.h.type(at[10], at[11] + 3), 0);
        House.due("(f)", x.h.type(at[11], at[11] + 2), 0);
        House.due("((f)) == -1", x.h.type(at[10], at[12]), 1);
        House.due("new A()", x.h.type(at[13], at[14] + 1), 10);
        House.due("backwards", x.h.type(at[2], at[0]), -2);
        House.due("nowhere", x.h.type(-5, at[0]), -2);
        House y = House.of("class Z { } class A { }");
        y.load(1, "class B { A a; Z z = null; B b = new B(); A c = a; }");
        House.due("B", y.h.type(10033, 10039), 12);
        House.due("A", y.h.type(10048, 10048), 11);
    }

    private static void families() {
        String m = "class A { void @m() { } void @m(int a) { } static void @s() { } } class B extends A { } "
            + "class C extends B { void @m() { } } class D extends A { void @m() { } void @n() { } } class E { void @m() { } }";
        House x = House.of(House.bare(m));
        int[] at = House.marks(m);
        int[] sizes = {3, 1, 1, 3, 3, 1, 1};
        for (int i = 0; i < at.length; i++) {
            House.due("family " + i, x.h.family(at[i]), sizes[i]);
        }
        House.due("of a class", x.h.family(6), -2);
        House.due("nowhere", x.h.family(0), -2);
        // Without the one above the two are no FAMILY.
        String two = "class A { } class C extends A { void @m() { } } class D extends A { void m() { } void g() { @m(); } }";
        House y = House.of(House.bare(two));
        House.due("alone", y.h.family(House.marks(two)[0]), 1);
        House.due("not told there", y.h.family(House.marks(two)[1]), -2);
        House.due("not told there", y.h.uses(House.marks(two)[1]), -2);
    }
}
