/** Changes: promises 23 to 26, sort by sort. */
public final class ChangesTest {
    public static void main(String[] args) {
        asks();
        rename();
        putInLocal();
        takeOutLocal();
        takeOutMethod();
        putInMethod();
        shutField();
        pullUp();
        pushDown();
        signature();
        move();
        drop();
        turnIf();
        newPrograms();
        House.end("ChangesTest");
    }

    private static int mark(String marked, char sign, int i) {
        int n = 0;
        int seen = 0;
        for (int k = 0; k < marked.length(); k++) {
            char c = marked.charAt(k);
            if (c == '@' || c == '~') {
                if (c == sign) {
                    if (seen == i) {
                        return k - n;
                    }
                    seen++;
                }
                n++;
            }
        }
        return -1;
    }

    private static String bare(String marked) {
        return marked.replace("@", "").replace("~", "");
    }

    /** A change of what stands at the first @ (up to the second one) breaks this condition, at the ~ or the @. */
    private static void broken(int sort, String name, String marked, int condition) {
        House x = House.of(bare(marked));
        House.due("judge of " + marked, x.told(x.h.judge()), "0");
        int a = mark(marked, '@', 0);
        int place = mark(marked, '~', 0) >= 0 ? mark(marked, '~', 0) : a;
        int answer = x.ask(sort, a, Math.max(0, mark(marked, '@', 1)), name);
        House.due("change " + sort + " of " + marked, x.told(answer), condition + "@" + place);
        House.due("no EDITS", x.h.edits(), 0);
        House.due("no EDIT", x.h.edit(0, 0), -1);
        House.due("not done", x.h.apply(), -2);
        House.due("THE TAPE is empty", x.h.cut(0), 0);
    }

    /** The change is SOUND, and makes this program. */
    private static House done(int sort, String name, String marked, String want) {
        House x = House.of(bare(marked));
        House.due("judge of " + marked, x.told(x.h.judge()), "0");
        int answer = x.ask(sort, mark(marked, '@', 0), Math.max(0, mark(marked, '@', 1)), name);
        House.due("change " + sort + " of " + marked, x.told(answer), "0");
        // The EDITS make the new program byte by byte.
        StringBuilder s = new StringBuilder();
        String old = bare(marked);
        int at = 0;
        for (int i = 0; i < x.h.edits(); i++) {
            int p = x.h.edit(i, 0);
            s.append(old, at, p);
            String e = x.edit(i);
            s.append(e.substring(e.indexOf(':') + 1));
            at = p + x.h.edit(i, 1);
        }
        s.append(old.substring(at));
        House.due("EDITS of " + marked, s.toString(), want);
        House.due("apply", x.h.apply(), 1);
        House.due("done: " + marked, x.text(0), want);
        House.due("judge", x.told(x.h.judge()), "0");
        return x;
    }

    private static void asks() {
        House x = House.of("class A { int f; }");
        x.tape("g");
        House.due("sort 12", x.h.ask(12, 14, 0), -1);
        House.due("sort -1", x.h.ask(-1, 14, 0), -1);
        House.due("THE TAPE stays", x.h.cut(0), 1);
        House.due("place stays", x.h.place(), -2);
        House.due("rename", x.h.ask(0, 14, 0), 0);
        House.due("edits", x.h.edits(), 1);
        House.due("edit place", x.h.edit(0, 0), 14);
        House.due("edit gone", x.h.edit(0, 1), 1);
        House.due("edit length", x.h.edit(0, 2), 1);
        House.due("edit byte", x.h.edit(0, 3), 'g');
        House.due("edit behind", x.h.edit(0, 4), -1);
        House.due("edit what", x.h.edit(0, -1), -1);
        House.due("edit what", x.h.edit(0, 2147483647), -1);
        House.due("edit -1", x.h.edit(-1, 0), -1);
        House.due("edit 1", x.h.edit(1, 0), -1);
        House.due("BAD changes nothing", x.h.ask(99, 0, 0), -1);
        House.due("edits stay", x.h.edits(), 1);
        x.h.judge();
        House.due("a FAULT", x.load(1, "x"), -12);
        House.due("edits stay", x.h.edits(), 1);
        House.due("not SOUND", x.ask(0, 0, 0, "g"), 1);
        House.due("place of 1 is a", x.h.place(), 0);
        House.due("edits are no more", x.h.edits(), 0);
        House.due("place of 1 is a", x.told(x.ask(0, -77, 0, "g")), "1@-77");
        House.due("1 ahead of 2", x.told(x.ask(0, 11, 0, "1")), "1@11");
        x.ask(0, 14, 0, "g");
        House.due("a load", x.load(1, ""), 0);
        House.due("edits are no more", x.h.edits(), 0);
        House.due("not done", x.h.apply(), -2);
        x.ask(0, 14, 0, "h");
        House.due("done", x.h.apply(), 1);
        House.due("text", x.text(0), "class A { int h; }");
        House.due("edits are no more", x.h.edits(), 0);
        House.due("not done again", x.h.apply(), -2);
        // What is asked or run in between does not spoil a SOUND change, however much was asked before.
        for (int i = 0; i < 300; i++) {
            House.due("ask", x.ask(0, 14, 0, "abcdefghijkl"), 0);
        }
        House.due("a FAULT", x.load(0, "class Zzz { } ?"), -11);
        House.due("run", x.h.run(1), 7);
        House.due("twin", x.h.twin(2, 2), 2);
        House.due("edits", x.h.edits(), 1);
        House.due("edit", x.edit(0), "14-1:abcdefghijkl");
        House.due("done", x.h.apply(), 2);
        House.due("text", x.text(0), "class A { int abcdefghijkl; }");
        x.load(0, "class A { X f; }");
        x.tape("g");
        House.due("ERRORS", x.h.ask(0, 6, 0), -2);
        House.due("THE TAPE stays", x.h.cut(0), 1);
        House.due("sort ahead of ERRORS", x.h.ask(12, 6, 0), -1);
    }

    private static void rename() {
        broken(0, "g", "@class A { int f; }", 1);
        broken(0, "", "class A { int @f; }", 2);
        broken(0, "1a", "class A { int @f; }", 2);
        broken(0, "a b", "class A { int @f; }", 2);
        broken(0, "g ", "class A { int @f; }", 2);
        broken(0, "abcdefghijklm", "class A { int @f; }", 2);
        broken(0, "while", "class A { int @f; }", 2);
        broken(0, "false", "class A { int @f; }", 2);
        broken(0, "\u00e9", "class A { int @f; }", 2);
        done(0, "abcdefghijkl", "class A { int @f; }", "class A { int abcdefghijkl; }");
        done(0, "whiles", "class A { int @f; }", "class A { int whiles; }");
        // From any of its NAMES, of a method with all of its FAMILY.
        done(0, "go", "class A { void m() { } void m(int a) { } } class B extends A { void m() { @m(); m(1); } } class C { "
            + "void m() { new B().m(); } }", "class A { void go() { } void m(int a) { } } class B extends A { void go() { go(); "
            + "m(1); } } class C { void m() { new B().go(); } }");
        done(0, "Z", "class B { int B; B b; B m(B B2) { return new @B(); } } class D extends B { static int s = 1; "
            + "int g = D.s; }", "class Z { int B; Z b; Z m(Z B2) { return new Z(); } } class D extends Z { static int s = 1; "
            + "int g = D.s; }");
        House x = done(0, "f", "class A { int @f; int g = f; }", "class A { int f; int g = f; }");
        House.due("text", x.text(0), "class A { int f; int g = f; }");
        // 20: an ERROR of the new program, at its place in that.
        broken(0, "gg", "class A { int @f; int gg; }", 20, "class A { int gg; int ");
        broken(0, "p", "class A { void m(int p) { int ~@x = 1; } }", 20);
        // 21: at the OLD one, the least.
        broken(0, "p", "class A { int @f; void m(int p) { print ~f; } }", 21);
        broken(0, "f", "class A { int f; void m(int @p) { print ~f; print f + p; } }", 21);
        broken(0, "f", "class A { int f; void m() { int @a = 1; print ~f; } }", 21);
        // A field of the NAME hides a class, but here nothing means that by its NAME and . .
        done(0, "B", "class @A { } class D { A B; void m() { } }", "class B { } class D { B B; void m() { } }");
        broken(0, "B", "class @A { static int s; } class D { A B; static void m() { print A.s; } }", 20,
            "class B { static int s; } class D { B B; static void m() { print ");
        broken(0, "B", "class @A { static int s; int t; } class D { D B; int s; void m() { print ~A.s; } }", 21);
        // 22: at the OLD NAME of the lower one.
        broken(0, "n", "class A { void @m() { } } class B extends A { void ~n() { } }", 22);
        broken(0, "n", "class A { void n() { } } class B extends A { void ~@m() { } }", 22);
    }

    private static void putInLocal() {
        broken(1, "", "class A { void m(int @p) { } }", 1);
        broken(1, "", "class A { void m() { int a = 1; print @a; } }", 1);
        broken(1, "", "class A { void m() { int @a = 1; if (a == 1) ~a = 2; a = 3; } }", 3);
        broken(1, "", "class A { int f; void m() { int @a = ~1 + f; } }", 4);
        broken(1, "", "class A { void m() { int @a = ~4 / 2; } }", 4);
        broken(1, "", "class A { void m() { int @a = ~4 % 2; } }", 4);
        broken(1, "", "class A { void m() { int @a = ~read; } }", 4);
        broken(1, "", "class A { void m() { A @a = ~new A(); } }", 4);
        broken(1, "", "class A { static int s; void m() { int @a = ~(1 + A.s); } }", 4);
        broken(1, "", "class A { int n() { return 1; } void m() { int @a = ~1 - n(); } }", 4);
        broken(1, "", "class A { void m(int p) { int b = 1; b = 2; int @a = p + b; print a; ~b = 3; p = 4; } }", 5);
        broken(1, "", "class A { void m(int p) { while (p < 9) { ~p = p + 1; { int @a = p; } } } }", 5);
        broken(1, "", "class A { void m(int p) { while (p < 9) { int b = p; while (b < 3) { int @a = b; } ~b = 1; } } }", 5);
        done(1, "", "class A { void m(int p) { p = 2; int @a = p * 2; print a - a; print 1; } }",
            "class A { void m(int p) { p = 2;  print (p * 2) - (p * 2); print 1; } }");
        done(1, "", "class A { void m(int p) { while (p < 3) { int b = 1; { int @a = b; print a; } } } }",
            "class A { void m(int p) { while (p < 3) { int b = 1; {  print b; } } } }");
        done(1, "", "class A { void m() { int @a = -(1); { print(a); } } }",
            "class A { void m() {  { print((-(1))); } } }");
        done(1, "", "class A { int f; A g; void m(int p, int r) { int @a = p; f = 3; g.f = 4; r = 5; print a; } }",
            "class A { int f; A g; void m(int p, int r) {  f = 3; g.f = 4; r = 5; print p; } }");
        // A blank where the bytes would run together; remarks in a COPY come along.
        done(1, "", "class A { int m() { int @a = 7; int b = 1;return(a)+b; } }", "class A { int m() {  int b = 1;return(7)+b; } }");
        done(1, "", "class A { int m() { int @a = 1 + // one\n 2; return a; } }", "class A { int m() {  return (1 + // one\n 2); } }");
        // What its NAMES mean behind it.
        done(1, "", "class A { int b; void m(A p) { { int b = 1; int @a = b; print a; } } }",
            "class A { int b; void m(A p) { { int b = 1;  print b; } } }");
        // All of the S of an if: no S is left there.
        broken(1, "", "class A { void m(bool b) { if (b) int @a = 1; } }", 20, "class A { void m(bool b) { if (b)  ");
    }

    private static void takeOutLocal() {
        broken(2, "n", "class A { void m() { print 1 @+ @2; } }", 1);
        broken(2, "n", "class A { void m() { print @1 + 2 @; } }", 1);
        broken(2, "n", "class A { void m() { print @A@.s; } static int s; }", 1);
        broken(2, "2", "class A { void m() { print @1@; } }", 1);
        broken(2, "2", "class A { void m() { print @1 + @2; } }", 2);
        broken(2, "n", "class A { void m() { A a = @@null; } }", 3);
        broken(2, "n", "class A { void m() { @m(@); } }", 3);
        broken(2, "n", "class A { void m(int p) { @@p = 1; } }", 4);
        broken(2, "n", "class A { int f; int m() { @m(@); return 1; } }", 4);
        broken(2, "n", "class A { void m(int p) { if (p == 1) print @p + @1; } }", 5);
        broken(2, "n", "class A { void m(int p) { if (p == 1) { } else if (@p == @2) { } } }", 5);
        broken(2, "n", "class A { void m(int p) { while (p < @@9) { } } }", 5);
        broken(2, "n", "class A { int f = @1 + @2; }", 5);
        broken(2, "n", "class A { int f; void m(int p) { print 1 + @@f; } }", 6);
        broken(2, "n", "class A { void m(int p) { print @p / @2; } }", 6);
        done(2, "n", "class A { void m(int p) { print 1; print 2 * @(p + 1 // x\n@) - 3; } }",
            "class A { void m(int p) { print 1; int n = (p + 1 // x\n); print 2 * n - 3; } }");
        done(2, "n", "class A { A a; void m(A p) { @@p.a = null; } }", "class A { A a; void m(A p) { A n = p; n.a = null; } }");
        done(2, "n", "class A { int m(int p) { return@(p)+@1; } }", "class A { int m(int p) { int n = (p)+1; return n; } }");
        done(2, "n", "class A { int m(int p) { return@(p@)+1; } }", "class A { int m(int p) { int n = (p); return n+1; } }");
        done(2, "n", "class A { void m(int p) { while (p < 3) { if (@p == @1) { return; } } } }",
            "class A { void m(int p) { while (p < 3) { bool n = p == 1; if (n) { return; } } } }");
        done(2, "n", "class A { A m() { return @@this; } } class B extends A { }",
            "class A { A m() { A n = this; return n; } } class B extends A { }");
        // One EDIT ahead of the other one at one PLACE.
        House x = House.of("class A { A a; void m(A p) { p.a = null; } }");
        House.due("ask", x.ask(2, 29, 29, "q"), 0);
        House.due("edits", x.h.edits(), 2);
        House.due("edit 0", x.edit(0), "29-0:A q = p; ");
        House.due("edit 1", x.edit(1), "29-1:q");
        broken(2, "p", "class A { void m(int p) { print @p + @1; } }", 20, "class A { void m(int p) { int ");
        broken(2, "f", "class A { int f; void m(int p) { print @p + @1; print ~f; } }", 21);
    }

    private static void takeOutMethod() {
        String m = "class A { int f; static void s(int a, int b) { ";
        broken(3, "n", m + "print @1; print 2@; } }", 1);
        broken(3, "n", m + "@print 1; { print 2@; } } }", 1);
        broken(3, "n", m + "if (a == b) @print 1@; } }", 1);
        broken(3, "n", m + "@print 1; print 2 @+ 1; } }", 1);
        broken(3, "n", "class A { void m() @{ print 1; @} }", 1);
        broken(3, "n", m + "print 1; { @print 2; } print 4@; } }", 1);
        broken(3, "if", m + "@print 1@; } }", 2);
        broken(3, "n", m + "@print 1; if (a == b) { ~return; @} } }", 3);
        broken(3, "n", m + "@int x = 1; x = 2@; print a; print ~x; print x; } }", 4);
        broken(3, "n", m + "@a = 1; ~b = 2; a = 3@; print a + b; } }", 5);
        broken(3, "n", m + "while (a < 3) { @b = 1; ~a = a + 1@; } } }", 5);
        broken(3, "n", m + "int c = 1; int d = 1; @d = 1; c = 1; ~a = 4; c = 2; d = 2@; print d + a; } }", 5);
        broken(3, "s", m + "@print a + b@; } }", 6);
        broken(3, "s", "class B { void s() { } } class A extends B { void m() { @print 1@; } }", 6);
        broken(3, "s", "class A { void m() { @print 1@; } } class B extends A { } class C extends B { static void s() { } }", 6);
        done(3, "n", m + "@print 1; { print 2; @} } }",
            m + "n(); } static void n() { print 1; { print 2; } } }");
        done(3, "n", m + "print 0; @print b; int x = a + 1; if (x == b) print x@; print a; } int g; }",
            m + "print 0; n(a, b); print a; } static void n(int a, int b) { print b; int x = a + 1; if (x == b) print x; } int g; }");
        done(3, "n", "class A { int f; void m(bool c, A a) { int i = f; @if (c) i = a.f@; print i; } }",
            "class A { int f; void m(bool c, A a) { int i = f; i = n(c, a, i); print i; } int n(bool c, A a, int i) { if (c) i = a.f; "
            + "return i; } }");
        done(3, "n", m + "while (a < 3) { { @a = a + 1@; } } } }",
            m + "while (a < 3) { { a = n(a); } } } static int n(int a) { a = a + 1; return a; } }");
        done(3, "n", m + "@a = 2@; } }", m + "n(a); } static void n(int a) { a = 2; } }");
        done(3, "n", "class B extends A { void m(B b) { @b = null; print b == null@; print b != null; } } class A { void n() { } }",
            "class B extends A { void m(B b) { b = n(b); print b != null; } B n(B b) { b = null; print b == null; return b; } } "
            + "class A { void n() { } }");
        // Nine params are a FAULT of the new program.
        broken(3, "n", "class A { void m(int a, int b, int c, int d, int e, int f, int g, int h) { int i = 1; "
            + "@print a + b + c + d + e + f + g + h + i@; } }", 20, "class A { void m(int a, int b, int c, int d, int e, int f, int g, "
            + "int h) { int i = 1; n(a, b, c, d, e, f, g, h, i); } void n(int a, int b, int c, int d, int e, int f, int g, int h, int ");
    }

    /** A FAULT or ERROR of the new program, behind these bytes of it. */
    private static void broken(int sort, String name, String marked, int condition, String ahead) {
        House x = House.of(bare(marked));
        int answer = x.ask(sort, mark(marked, '@', 0), Math.max(0, mark(marked, '@', 1)), name);
        House.due("change " + sort + " of " + marked, x.told(answer), condition + "@" + ahead.length());
    }

    private static void putInMethod() {
        broken(4, "", "class A { int @f; }", 1);
        broken(4, "", "class A { int m(int @a) { return 1; } }", 1);
        broken(4, "", "class A { void @m() { } }", 3);
        broken(4, "", "class A { void @m() { return; } }", 3);
        broken(4, "", "class A { int @m() { { return 1; } } }", 3);
        broken(4, "", "class A { int @m() { print 1; return 1; } }", 3);
        broken(4, "", "class A { int @m() { return 1; print 1; } }", 3);
        broken(4, "", "class A { int @m() { return 1; return 2; } }", 3);
        broken(4, "", "class A { int @m() { return 1; } } class B extends A { int m() { return 2; } }", 4);
        broken(4, "", "class A { int @m(int a) { return m(a); } }", 5);
        broken(4, "", "class A { int f; int @m(int a) { return a; } void n() { print m(1); print m(~2 + f); } }", 6);
        broken(4, "", "class A { int @m(int a, int b) { return a; } void n() { print m(~read, read) + m(1, read); } }", 6);
        broken(4, "", "class A { int @m() { return 1; } void n(A a) { print m() + this.m(); print a.~m() + new A().m(); } }", 7);
        broken(4, "", "class A { int @m() { return 1; } void n() { print (this).~m(); } }", 7);
        done(4, "", "class A { int f; int @m(int a, int b) { return a * b - a + f; } void n(int x) { print m(x, 1 + x); "
            + "print -this . m((2), 3) * 2; } }", "class A { int f;  void n(int x) { print (x * (1 + x) - x + f); "
            + "print -(((2)) * 3 - ((2)) + f) * 2; } }");
        done(4, "", "class A { static int s; static bool @m(bool a) { return !a || A.s == 1; } } class B { void n() { print "
            + "A.m(true); print A . m ( 1 < 2 ) == false; } }", "class A { static int s;  } class B { void n() { print "
            + "(!true || A.s == 1); print (!(1 < 2) || A.s == 1) == false; } }");
        done(4, "", "class A { int @m(int a) { return 1 + a; } void n(int b) { print m(b * 2); n(read); } }",
            "class A {  void n(int b) { print (1 + (b * 2)); n(read); } }");
        // What its exp means must be known where it comes.
        broken(4, "", "class A { static int s; static int @m() { return ~s; } } class B { void n() { print A.m(); } }", 20,
            "class A { static int s;  } class B { void n() { print (");
        broken(4, "", "class A { int f; int @m() { return ~f; } void n(int f) { print m(); } }", 21);
    }

    private static void shutField() {
        broken(5, "get", "class A { int @m() { return 1; } }", 1);
        broken(5, "new", "class A { int @f; }", 2);
        broken(5, "get", "class A { static int @f; }", 3);
        broken(5, "get", "class A { int @f; A a; void n() { f = 1; a.f = 2; } } class B { void m(A a) { print a.f; a.a.~f = 1; a.f = 2; } }", 4);
        broken(5, "get", "class A { int @f; } class B extends A { void m() { ~f = 1; } }", 4);
        done(5, "get", "class A { bool @f = true;int g; void m(A a) { a.f = f; } } class B extends A { A a; void m() { print f; print a . f; "
            + "print this.f; a = null; } }", "class A { bool f = true; bool get() { return f; }int g; void m(A a) { a.f = f; } } "
            + "class B extends A { A a; void m() { print get(); print a . get(); print this.get(); a = null; } }");
        done(5, "f", "class A { A @f; } class B { void m(A a) { print a.f.f == null; } }",
            "class A { A f; A f() { return f; } } class B { void m(A a) { print a.f().f() == null; } }");
        broken(5, "m", "class A { int @f; int m() { return 1; } }", 20, "class A { int f; int m() { return f; } int ");
        // The method that comes is without an OLD one, so what it OVERRIDES, or OVERRIDES it, is told nothing of.
        done(5, "m", "class A { int @f; } class B extends A { int m() { return 1; } }",
            "class A { int f; int m() { return f; } } class B extends A { int m() { return 1; } }");
    }

    private static void pullUp() {
        broken(6, "", "class @A { int f; }", 1);
        broken(6, "", "class A { void m(int @p) { } }", 1);
        broken(6, "", "class A { int @f; }", 3);
        done(6, "", "class A { } class B extends A { int f; int @g = 1 ; void m() { g = f; } }",
            "class A { int g = 1 ; } class B extends A { int f;  void m() { g = f; } }");
        done(6, "", "class A {int h;} class B extends A { static int @m(int a) { return a; } int f = m(1); }",
            "class A {int h;static int m(int a) { return a; } } class B extends A {  int f = m(1); }");
        broken(6, "", "class A { } class B extends A { int f; int @m() { return f; } }", 20, "class A { int m() { return ");
        broken(6, "", "class A { int f; } class B extends A { int @f; }", 20, "class A { int f; int ");
        broken(6, "", "class A { } class B extends A { void @m() { } } class C extends A { void ~m() { } }", 22);
        broken(6, "", "class A { int f; } class B extends A { bool f; void @m() { print ~f; } }", 21);
    }

    private static void pushDown() {
        broken(7, "B", "class @A { } class B extends A { }", 1);
        broken(7, "1", "class A { int @f; } class B extends A { }", 2);
        broken(7, "C", "class A { int @f; } class B extends A { }", 3);
        broken(7, "A", "class A { int @f; } class B extends A { }", 3);
        broken(7, "C", "class A { int @f; } class B extends A { } class C extends B { }", 3);
        done(7, "B", "class A { int @f; } class B extends A { int g = f; }", "class A {  } class B extends A { int g = f; int f; }");
        broken(7, "B", "class A { int @f; int g = f; } class B extends A { }", 20, "class A {  int g = ");
        broken(7, "B", "class A { void @m() { } } class B extends A { } class C extends A { void ~m() { } }", 22);
    }

    private static void signature() {
        broken(8, "", "class A { int @f; }", 1);
        broken(8, "0a", "class A { void @m(int a) { } }", 2);
        broken(8, " ", "class A { void @m(int a) { } }", 2);
        broken(8, "1", "class A { void @m(int a) { } }", 3);
        broken(8, "00", "class A { void @m(int a, int b) { } }", 3);
        broken(8, "010101010101", "class A { void @m(int a, int b) { } }", 3);
        broken(8, "0", "class A { void @m(int a, int b) { print a + 1; print ~b; } }", 4);
        broken(8, "0", "class A { void m(int a, int b) { } } class B extends A { void @m(int c, int d) { print ~d; } }", 4);
        broken(8, "10", "class A { void @m(int a, int b) { } void n() { m(1, 2); m(3, ~4 + read); } }", 5);
        broken(8, "", "class A { void @m(int a) { } void n() { m(1); new A().m(~new A().f); } int f; }", 5);
        done(8, "", "class A { void @m(int a) { } void n(int b) { m(1); n(read); } }", "class A { void m() { } void n(int b) { m(); n(read); } }");
        done(8, "20", "class A { void @m( int a , bool b,A c // see\n) { print a; } void n() { m(1 + 2, true, null); this.m ( 3,false , this ) ; } }",
            "class A { void m(A c, int a) { print a; } void n() { m(null, 1 + 2); this.m (this, 3) ; } }");
        done(8, "", "class A { void @m(int a) { } void n() { m(1); } }", "class A { void m() { } void n() { m(); } }");
        done(8, "", "class A { void @m() { m( ); } }", "class A { void m() { m(); } }");
        done(8, "10", "class A { void m(int a, bool b) { } void n() { new B().m(1, true); } } class B extends A { void @m(int c, bool d) { } }",
            "class A { void m(bool b, int a) { } void n() { new B().m(true, 1); } } class B extends A { void m(bool d, int c) { } }");
        broken(8, "", "class A { void @m(int a) { } void m() { } }", 20, "class A { void m() { } void ");
        broken(8, "", "class A { void @m(int a) { } } class B extends A { void ~m() { } }", 22);
        House x = House.of("class A { void m() { m(); } }");
        House.due("ask", x.ask(8, 15, 0, ""), 0);
        House.due("edits that change nothing", x.h.edits(), 2);
        House.due("edit 0", x.edit(0), "17-0:");
        House.due("edit 1", x.edit(1), "23-0:");
    }

    private static void move() {
        broken(9, "B", "class A { int @f; } class B { }", 1);
        broken(9, "B", "class @A { static int f; } class B { }", 1);
        broken(9, "b c", "class A { static int @f; } class B { }", 2);
        broken(9, "C", "class A { static int @f; } class B { }", 3);
        broken(9, "A", "class A { static int @f; } class B { }", 3);
        done(9, "B", "class A { static int @f = 1; int g = f + A.f; } class B { int h = A . f; } class C extends A { int i = f + C.f; }",
            "class A {  int g = B.f + B.f; } class B { int h = B . f; static int f = 1; } class C extends A { int i = B.f + B.f; }");
        done(9, "B", "class Z { static int z; } class A extends Z { static int s; static int @m(int n, A a) { if (n == s) return A.s + z; "
            + "A c = new A(); c.f = 1; return m(n - 1, a) + A.m(1, a) + t(n); } static int t(int n) { return m(n, null); } int f; } "
            + "class B { }",
            "class Z { static int z; } class A extends Z { static int s;  static int t(int n) { return B.m(n, null); } int f; } "
            + "class B { static int m(int n, A a) { if (n == A.s) return A.s + Z.z; A c = new A(); c.f = 1; "
            + "return B.m(n - 1, a) + B.m(1, a) + A.t(n); } }");
        broken(9, "B", "class A { static int @f; void m(int B) { print f; } } class B { }", 20,
            "class A {  void m(int B) { print ");
        broken(9, "B", "class A { static int @f; } class B { int f; }", 20, "class A {  } class B { int f; static int ");
        done(9, "Bee", "class Be { } class Abcdefghijkl { static int @f; } class Beee { } class Bee { }",
            "class Be { } class Abcdefghijkl {  } class Beee { } class Bee { static int f; }");
        House x = House.of("class A { static int f; int g = f; } class B { }");
        House.due("ask", x.ask(9, 21, 0, "B"), 0);
        House.due("edits", x.h.edits(), 3);
        House.due("edit 0", x.edit(0), "10-13:");
        House.due("edit 1", x.edit(1), "32-0:B.");
        House.due("edit 2", x.edit(2), "47-0:static int f; ");
    }

    private static void drop() {
        broken(10, "", "class A { void m(int @p) { } }", 1);
        broken(10, "", "class A { int f; void m() { print @f; } }", 1);
        broken(10, "", "class A { int @f; void m() { print ~f; f = 1; } }", 3);
        broken(10, "", "class @A { A a; } class B extends ~A { }", 3);
        broken(10, "", "class A { void @m() { m(); } void n() { ~m(); } }", 3);
        broken(10, "", "class A { void m() { int @a = 1; ~a = 2; } }", 3);
        broken(10, "", "class A { int @f = ~read; }", 4);
        broken(10, "", "class A { void m() { int @a = ~1 % 2; } }", 4);
        broken(10, "", "class A { void @m() { } } class B extends A { void m() { } }", 5);
        broken(10, "", "class A { static void @main() { } }", 5);
        done(10, "", "class A { void @main() { main(); } }", "class A {  }");
        done(10, "", "class A { static int @main() { return 1; } }", "class A {  }");
        done(10, "", "class A { static void @main(int a) { } }", "class A {  }");
        done(10, "", "class A { int @f = 1 + 2; } // f", "class A {  } // f");
        done(10, "", "class A { void m() { int @a = 1; { } } }", "class A { void m() {  { } } }");
        done(10, "", "class @A extends B { A a; } class B { static int s; }", " class B { static int s; }");
        // Of a class itself alone that is asked: what its members meant to others is an ERROR.
        broken(10, "", "class B { void m(C c) { print c.a.f; } } class C { ~A a; } class @A { int f; }", 3);
    }

    private static void turnIf() {
        broken(11, "", "class A { void m() { @while (true) { } } }", 1);
        broken(11, "", "class A { void m() { if @(true) { } else { } } }", 1);
        broken(11, "", "class A { void m() { @if (true) { } } }", 3);
        done(11, "", "class A { void m(int a) { @if (a < 1) print 1; else { print 2; } } }",
            "class A { void m(int a) { if (!(a < 1))  { { print 2; } }  else  { print 1; }  } }");
        done(11, "", "class A { void m(bool a) { if (a) { } else @if (!a) print 1; else if (a) { } else { } } }",
            "class A { void m(bool a) { if (a) { } else if (!(!a))  { if (a) { } else { } }  else  { print 1; }  } }");
        done(11, "", "class A { void m(bool a) { @if(a)int x = 1;else{} } }",
            "class A { void m(bool a) { if(!(a)) { {} } else { int x = 1; }  } }");
        House x = House.of("class A { void m(bool a) { if (a) { } else { } } }");
        House.due("ask", x.ask(11, 27, 0, "1 any tape"), 0);
        House.due("edits", x.h.edits(), 3);
        House.due("edit 0", x.edit(0), "31-1:!(a)");
        House.due("edit 1", x.edit(1), "34-3: { { } } ");
        House.due("edit 2", x.edit(2), "43-3: { { } } ");
        // 1 and 8 times 2 nests, the S, its { and ( ): that is 20, with one { more 21.
        String nest = "class A { void m(bool a) { " + House.times(8, "if (a) {");
        broken(11, "", nest + "@if (a) m(a); else { m(a); } " + House.times(8, "}") + " } }", 20,
            nest + "if (!(a))  { { m(");
    }

    private static void newPrograms() {
        // A FILE of more than 3000 bytes, at its byte 0; FILE by FILE, ahead of its FAULT.
        String fat = "class A { void m() { int a = 111111111 + 222222222 + 333333333; " + House.times(50, "f(a + a); ")
            + "} void f(int x) { } }";
        House x = House.of("class Z { int f; }");
        House.due("load", x.load(1, fat) > 0 ? 1 : 0, 1);
        House.due("too long", x.told(x.ask(1, 10000 + fat.indexOf("a ="), 0, "")), "20@10000");
        House.due("size stays", x.h.size(1), fat.length());
        // Just 3000 bytes are fine.
        String text = "class A { int f; }" + House.times(2982 - 11, " ");
        House y = House.of(text);
        House.due("3000", y.told(y.ask(0, 14, 0, "abcdefghijkl")), "0");
        House.due("apply", y.h.apply(), 1);
        House.due("size", y.h.size(0), 3000);
        House z = House.of(text + " ");
        House.due("3001", z.told(z.ask(0, 14, 0, "abcdefghijkl")), "20@0");
        // The 25th member.
        String full = "class A { " + members(24) + "} class B extends A { int @f; } ";
        broken(6, "", full, 20, bare(full).substring(0, bare(full).indexOf("} class B")) + "int ");
        // In several FILES.
        House w = House.of("class A { int f; }");
        w.load(3, "class B extends A { int g = f; A a; int h = a.f; }");
        House.due("rename in two FILES", w.ask(0, 30028, 0, "ff"), 0);
        House.due("edits", w.h.edits(), 3);
        House.due("edit 0", w.edit(0), "14-1:ff");
        House.due("edit 1", w.edit(1), "30028-1:ff");
        House.due("edit 2", w.edit(2), "30046-1:ff");
        House.due("apply", w.h.apply(), 1);
        House.due("FILE 0", w.text(0), "class A { int ff; }");
        House.due("FILE 3", w.text(3), "class B extends A { int g = ff; A a; int h = a.ff; }");
        House.due("an ERROR in FILE 3", w.told(w.ask(0, 14, 0, "zz")), "0");
        House.due("pull up", w.told(w.ask(6, 30024, 0, "")), "0");
        House.due("edit 0", w.edit(0), "18-0:int g = ff; ");
        House.due("edit 1", w.edit(1), "30020-11:");
    }

    private static String members(int n) {
        StringBuilder s = new StringBuilder();
        for (int i = 0; i < n; i++) {
            s.append("int x").append(i).append("; ");
        }
        return s.toString();
    }
}
