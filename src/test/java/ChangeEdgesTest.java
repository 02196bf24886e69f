/** Edges of changes and of the HISTORY, promise by promise: 23 to 28. */
public final class ChangeEdgesTest {
    private static final int LEAST = Integer.MIN_VALUE;
    private static final int MOST = Integer.MAX_VALUE;

    public static void main(String[] args) {
        refused();
        names();
        notThere();
        rename();
        putInLocal();
        takeOutLocal();
        takeOutMethodFaults();
        takeOutMethod();
        putInMethod();
        shutField();
        pullAndPush();
        signature();
        move();
        drop();
        turnIf();
        condition20();
        condition21();
        condition22();
        edits();
        wideEdits();
        history();
        House.end("ChangeEdgesTest");
    }

    // A @ is PLACE a, a second one b; a ~ is the place that is told, else a is.

    private static int[] marks(String marked, char sign) {
        StringBuilder s = new StringBuilder();
        int[] at = {-1, -1};
        int n = 0;
        for (char c : marked.toCharArray()) {
            if (c == sign && n < 2) {
                at[n] = s.length();
                n++;
            }
            if (c != '@' && c != '~') {
                s.append(c);
            }
        }
        return at;
    }

    private static String bare(String marked) {
        return marked.replace("@", "").replace("~", "");
    }

    private static House asked(int sort, String name, String marked, String want) {
        House x = House.of(bare(marked));
        House.due("judge of " + marked, x.told(x.h.judge()), "0");
        int[] at = marks(marked, '@');
        House.due("change " + sort + " " + name + " of " + marked, x.told(x.ask(sort, at[0], at[1], name)), want);
        House.due("THE TAPE is empty", x.h.cut(0), 0);
        return x;
    }

    private static void broken(int sort, String name, String marked, int condition) {
        int place = marks(marked, '~')[0] >= 0 ? marks(marked, '~')[0] : marks(marked, '@')[0];
        House x = asked(sort, name, marked, condition + "@" + place);
        House.due("no EDITS", x.h.edits(), 0);
        House.due("no EDIT", x.h.edit(0, 0), -1);
        House.due("not done", x.h.apply(), -2);
        House.due("as it was", x.text(0), bare(marked));
    }

    /** A FAULT or ERROR of the new program, which begins so. */
    private static void newFault(int sort, String name, String marked, String ahead) {
        asked(sort, name, marked, "20@" + ahead.length());
    }

    private static House done(int sort, String name, String marked, String want) {
        House x = asked(sort, name, marked, "0");
        House.due("apply", x.h.apply(), 1);
        House.due("done: change " + sort + " " + name + " of " + marked, x.text(0), want);
        House.due("judge", x.told(x.h.judge()), "0");
        House.due("undo", x.h.undo(), 0);
        House.due("as it was", x.text(0), bare(marked));
        return x;
    }

    // Promise 23: what is refused, and THE TAPE.

    private static void refused() {
        House x = House.of("class A { int f; }");
        x.ask(0, 14, 0, "g");
        for (int sort : new int[] {-1, 12, LEAST, MOST}) {
            x.tape("h");
            House.due("sort " + sort, x.h.ask(sort, 14, 0), -1);
            House.due("THE TAPE stays", x.h.cut(1), 0);
        }
        House.due("the change stays", x.edit(0), "14-1:g");
        for (int sort = 0; sort < 12; sort++) {
            House.due("nowhere, sort " + sort, x.told(x.ask(sort, -1, -1, "name")), "1@-1");
            House.due("THE TAPE is empty", x.h.cut(0), 0);
            House.due("nowhere, sort " + sort, x.told(x.ask(sort, MOST, LEAST, "name")), "1@" + MOST);
        }
        x.load(1, "class B { B b = 1; }");
        for (int sort = 0; sort < 12; sort++) {
            x.tape("name");
            House.due("ERRORS, sort " + sort, x.h.ask(sort, 14, 14), -2);
            House.due("THE TAPE stays", x.h.cut(4), 0);
        }
        House.due("BAD ahead of ERRORS", x.h.ask(12, 14, 14), -1);
        // Where no NAME is wanted, THE TAPE does not count, and is empty then.
        String t = "class A { static int s = 1; static int k() { return 1; } void m(bool b) { int l = 1; if (b) { } else { } } } class B extends A { int f; }";
        int[][] asks = {{1, t.indexOf("l =")}, {4, t.indexOf("k(")}, {6, t.indexOf("f;")}, {10, t.indexOf("s =")}, {11, t.indexOf("if")}};
        for (int[] a : asks) {
            House y = House.of(t);
            for (String tape : new String[] {"", "while", "?", "1", House.times(4000, "x")}) {
                House.due("sort " + a[0], y.told(y.ask(a[0], a[1], 77, tape)), "0");
                House.due("THE TAPE is empty", y.h.cut(0), 0);
            }
        }
    }

    /** Condition 2, with each sort that wants a NAME: THE TAPE, all of its bytes. */
    private static void names() {
        String t = "class A { static int s; int f; void m(int p) { print p + 1; } } class B extends A { }";
        int[][] asks = {{0, t.indexOf("f;")}, {2, t.indexOf("p +"), t.indexOf("1;")}, {3, t.indexOf("print"), t.indexOf("; }")},
            {5, t.indexOf("f;")}, {7, t.indexOf("f;")}, {9, t.indexOf("s;")}};
        String[] bad = {"", " ", "1", "1a", "a b", "a ", " a", "a-", "a//", "_a", "a_", "$a", "\u00e9", "a\u00e9", "abcdefghijklm",
            House.times(4000, "a"), "class", "extends", "static", "int", "bool", "void", "if", "else", "while", "return", "print", "read",
            "new", "this", "null", "true", "false"};
        House x = House.of(t);
        for (int[] a : asks) {
            for (String name : bad) {
                House.due("sort " + a[0] + " with " + name, x.told(x.ask(a[0], a[1], a.length > 2 ? a[2] : 0, name)), "2@" + a[1]);
            }
            for (String name : new String[] {"abcdefghijkl", "Class", "ifs", "trues", "a1", "Z", "z9999999999Z"}) {
                String want = a[0] == 7 || a[0] == 9 ? "3@" + a[1] : "0";
                House.due("sort " + a[0] + " with " + name, x.told(x.ask(a[0], a[1], a.length > 2 ? a[2] : 0, name)), want);
            }
        }
        // 1 is told ahead of 2.
        for (int[] a : asks) {
            House.due("1 ahead of 2", x.told(x.ask(a[0], 5, 5, "")), "1@5");
        }
        // SIGNATURE: digits alone, or nothing.
        int m = t.indexOf("m(");
        for (String digits : new String[] {"a", " ", "0 ", "0,", "-0", "0a", "/", ":", "\u00b2"}) {
            House.due("digits " + digits, x.told(x.ask(8, m, 0, digits)), "2@" + m);
        }
        House.due("1 ahead of 2", x.told(x.ask(8, m + 1, 0, "a")), "1@" + (m + 1));
    }

    /** Condition 1: which PLACES a change may be of. */
    private static void notThere() {
        String t = "class A extends B { int f; static int s; int m(int p) { int l = 1; f = l; if (true) { } else { } return p; } "
            + "int n() { return m(1); } } class B { }";
        int[] at = {t.indexOf("A"), t.indexOf("B"), t.indexOf("f;"), t.indexOf("s;"), t.indexOf("m("), t.indexOf("p)"), t.indexOf("l ="),
            t.indexOf("f ="), t.indexOf("l;"), t.indexOf("p;"), t.indexOf("m(1)"), t.indexOf("B { }"), 0, t.indexOf("if"), t.indexOf("return")};
        // For each of these: the sorts that may be of it, of those of one PLACE.
        String[] may = {"0a", "0", "056a", "0569a", "0468a", "0", "01a", "0", "0", "0", "0", "0a", "", "b", ""};
        String sorts = "0123456789ab";
        for (int i = 0; i < at.length; i++) {
            for (int sort = 0; sort < 12; sort++) {
                if (sort == 2 || sort == 3 || sort == 7) {
                    continue;
                }
                House x = House.of(t);
                int answer = x.ask(sort, at[i], 0, sort == 8 ? "0" : "Name");
                House.due("sort " + sort + " of what is at " + at[i], answer == 1 ? 1 : 0, may[i].indexOf(sorts.charAt(sort)) < 0 ? 1 : 0);
                House.due("its place", answer != 1 || x.h.place() == at[i] ? 1 : 0, 1);
            }
        }
        // TURN AN IF: at if alone, be it all of another S.
        broken(11, "", "class A { void m(bool b) { if (b) { } @else if (b) { } else { } } }", 1);
        broken(11, "", "class A { void m(bool b) { if @(b) { } else { } } }", 1);
        broken(11, "", "class A { void m(bool b) @{ if (b) { } else { } } }", 1);
        broken(11, "", "class A { void m(bool b) { @while (b) if (b) { } else { } } }", 1);
        // TAKE OUT A LOCAL: an exp from its first to its last token.
        String[] none = {"print 1 @+ 2@;", "print @1 + @2 * 3;", "print 3 - @2 - @1;", "print @1 @+ 2;", "print @(1 + @2);", "@print @1;", "print 1@;@",
            "print @A@.s;", "print A.@@s;", "print A.@k@(1);", "print A.k@(1@);", "int @@l = 1;", "int l @= @1;", "@int @l = 1;", "print @1@ ;"};
        for (String s : none) {
            broken(2, "n", "class A { static int s; static int k(int a) { return a; } void m() { " + s + " } }", 1);
        }
        done(2, "n", "class A { void m() { print @(1 + 2@); } }", "class A { void m() { int n = (1 + 2); print n; } }");
        done(2, "n", "class A { void m() { print @1 + @2 - 3; } }", "class A { void m() { int n = 1 + 2; print n - 3; } }");
        // TAKE OUT A METHOD: S's of one block, from a first to a last token.
        String[] noRuns = {"print 1; { @print 2; } print 3@;", "{ @print 1; } { @}", "@print 1;@", "print 1@; print 2@;", "@print 1 @+ 2;", "print 2@; @print 1;",
            "if (true) @print 1@;", "while (true) @print 1@;", "if (true) { } else @print 1@;", "if (true) @{ @}", "print @1@;", "{ @print 1; print 2; @}",
            "@if (true) print 1@; else print 2;", "@while (@true) { }", "print 1; @", "@print 2; { print 1@; }"};
        for (String s : noRuns) {
            broken(3, "n", "class A { void m() { " + s + " } }", 1);
        }
        broken(3, "n", "class A { void m() @{ print 1; @} }", 1);
        broken(3, "n", "class A { @void m() { print 1; @} }", 1);
        broken(3, "n", "class A { void m() { @print 1; } void k() { print 1@; } }", 1);
        broken(3, "n", "class A { void m() { @{ print 1; } @} }", 1);
        done(3, "n", "class A { void m() { @int x = 1; { print 1; @} print 2; } }",
            "class A { void m() { n(); print 2; } void n() { int x = 1; { print 1; } } }");
        done(3, "n", "class A { void m() { @if (true) print 1; else print 2; print 3@; } }",
            "class A { void m() { n(); } void n() { if (true) print 1; else print 2; print 3; } }");
        done(3, "n", "class A { void m() { if (true) { @print 1@; } } }", "class A { void m() { if (true) { n(); } } void n() { print 1; } }");
        done(3, "n", "class A { void m() { @{ @} } }", "class A { void m() { n(); } void n() { { } } }");
    }

    // 0

    private static void rename() {
        done(0, "g", "class A { void m() { } void k(A a) { @m(); a.m(); } } class B extends A { void m() { } } class C extends B { void m() { } "
            + "void m(int a) { m(); } } class D extends A { void m() { } } class E { void m() { } void k(C c, E e) { c.m(); e.m(); c.m(1); } }",
            "class A { void g() { } void k(A a) { g(); a.g(); } } class B extends A { void g() { } } class C extends B { void g() { } "
            + "void m(int a) { g(); } } class D extends A { void g() { } } class E { void m() { } void k(C c, E e) { c.g(); e.m(); c.m(1); } }");
        // Static ones are no FAMILY, nor are those of the same NAME apart.
        done(0, "g", "class A { static void @m() { m(); A.m(); B.m(); } } class B extends A { void k() { m(); } } class C { static void m() { } }",
            "class A { static void g() { g(); A.g(); B.g(); } } class B extends A { void k() { g(); } } class C { static void m() { } }");
        done(0, "q", "class A { int p; void m(int @p) { p = this.p + p; { int k = p; } } void n(int p) { } }",
            "class A { int p; void m(int q) { q = this.p + q; { int k = q; } } void n(int p) { } }");
        done(0, "q", "class A { void m() { { int @p = 1; p = p + 1; } { int p = 2; p = p + 1; } } }",
            "class A { void m() { { int q = 1; q = q + 1; } { int p = 2; p = p + 1; } } }");
        // To its own NAME: EDITS that change nothing.
        House x = done(0, "abc", "class A { int @abc; int g = abc; }", "class A { int abc; int g = abc; }");
        x.ask(0, 14, 0, "abc");
        House.due("edits", x.h.edits(), 2);
        House.due("edit", x.edit(1), "27-3:abc");
        // Shorter and longer NAMES, remarks and blanks stay.
        done(0, "l", "class A{int @longer;int g=longer// longer\n+longer ;}", "class A{int l;int g=l// longer\n+l ;}");
        done(0, "longer", "class A{int @l;int g=l+l-l;}", "class A{int longer;int g=longer+longer-longer;}");
    }

    // 1

    private static void putInLocal() {
        // 3 comes ahead of 4, 4 ahead of 5.
        broken(1, "", "class A { void m() { int @a = read; ~a = 1; } }", 3);
        broken(1, "", "class A { void m(int p) { int @a = ~p / 1; p = 2; } }", 4);
        broken(1, "", "class A { void m() { int @a = 1; { { if (a == 1) ~a = a + 1; } } } }", 3);
        // CALM: each of those that it is without, alone and within.
        for (String e : new String[] {"k()", "this.k()", "read", "f", "this.f", "A.s", "s", "1 / 1", "1 % 1"}) {
            String ahead = "class A { int f; static int s; int k() { return 1; } void m(int p, bool q) { int @a = ~";
            broken(1, "", ahead + e + "; } }", 4);
            broken(1, "", ahead + "-(" + e + "); } }", 4);
            broken(1, "", ahead + "1 + p * (" + e + "); } }", 4);
        }
        broken(1, "", "class A { void m() { A @a = ~new A(); } }", 4);
        broken(1, "", "class A { void m() { bool @a = ~new A() == null; } }", 4);
        for (String e : new String[] {"1", "-p", "p * p - p + 1", "(p)", "-(-(p))"}) {
            done(1, "", "class A { void m(int p) { int @a = " + e + "; print a; } }",
                "class A { void m(int p) {  print " + (e.length() == 1 ? e : "(" + e + ")") + "; } }");
        }
        for (String e : new String[] {"true", "null == this", "!q || q && 1 < 2", "q == true"}) {
            done(1, "", "class A { void m(bool q) { bool @a = " + e + "; if (a) { } } }",
                "class A { void m(bool q) {  if (" + (e.length() == 4 ? e : "(" + e + ")") + ") { } } }");
        }
        // 5: a local or param of its exp; others and fields are none of these.
        String m = "class A { int f; A me; void m(int p, int q) { ";
        broken(1, "", m + "int @a = p; ~p = 1; } }", 5);
        broken(1, "", m + "int @a = p + q; { if (true) { ~q = 1; } } p = 1; } }", 5);
        broken(1, "", m + "{ int @a = p; } ~p = 1; } }", 5);
        broken(1, "", m + "if (true) { int @a = p; } else { ~p = 1; } } }", 5);
        broken(1, "", m + "while (true) { p = 1; { int @a = q; } if (true) ~q = 1; } } }", 5);
        broken(1, "", m + "while (true) { ~p = 1; while (true) { int @a = p; print a; } } } }", 5);
        broken(1, "", m + "while (true) { if (true) { while (true) ~p = 1; } { int @a = p; } } } }", 5);
        done(1, "", m + "p = 1; int @a = p; print a; q = 2; f = 3; me.f = 4; } }", m + "p = 1;  print p; q = 2; f = 3; me.f = 4; } }");
        done(1, "", m + "while (true) { p = 1; } int @a = p; while (true) { print a; q = 1; } } }",
            m + "while (true) { p = 1; }  while (true) { print p; q = 1; } } }");
        done(1, "", m + "{ int k = 1; k = 2; int @a = k; print a; } int k = 3; k = 4; } }", m + "{ int k = 1; k = 2;  print k; } int k = 3; k = 4; } }");
        done(1, "", m + "int @a = p; } void n(int p) { p = 1; } }", m + " } void n(int p) { p = 1; } }");
        // Its own telling in a while is none of this; that of what is in its exp is none either.
        done(1, "", m + "while (true) { int k = 1; int @a = k; print a; } } }", m + "while (true) { int k = 1;  print k; } } }");
        // Meant nowhere, or often.
        done(1, "", m + "int @a = 1; } }", m + " } }");
        done(1, "", m + "int @a = -1; print a + a * a - -a; int b = a; } }", m + " print (-1) + (-1) * (-1) - -(-1); int b = (-1); } }");
        // It is all of another S: then that is left without one.
        newFault(1, "", m + "while (true) int @a = 1; } }", m + "while (true)  ");
        House x = asked(1, "", "class A { void m(bool b) { if (b) { } else int @a = 1; print 2; } }", "0");
        House.due("EDIT", x.edit(0), "43-10:");
        // What is put in is one token, or in ( ); a blank where a letter or digit is in front.
        done(1, "", "class A { int m(int p) { int @a = p;int b = 1;return(a);} }", "class A { int m(int p) { int b = 1;return(p);} }");
        done(1, "", "class A { void m(int p) { int @a = p - 1; print-a; print a-a; } }", "class A { void m(int p) {  print-(p - 1); print (p - 1)-(p - 1); } }");
        // A COPY has all of its bytes.
        done(1, "", "class A { void m(int p) { int @a = p // a\n  -\t1 ; print a; } }", "class A { void m(int p) {  print (p // a\n  -\t1); } }");
    }

    // 2

    private static void takeOutLocal() {
        // 3 ahead of 4, 4 of 5, 5 of 6.
        broken(2, "n", "class A { void v() { } void m() { @v(@); } }", 3);
        broken(2, "n", "class A { void v() { } void m() { if (true) @v(@); } }", 3);
        broken(2, "n", "class A { A f = @@null; }", 3);
        broken(2, "n", "class A { A m() { return @(null@); } }", 3);
        broken(2, "n", "class A { A m(A a) { while (@@null == a) { } return a; } }", 3);
        broken(2, "n", "class A { int k() { return 1; } void m() { if (true) @k(@); } }", 4);
        broken(2, "n", "class A { int f; void m() { if (true) @@f = 1; } }", 4);
        broken(2, "n", "class A { A a; void m() { @a.@a = null; } }", 4);
        broken(2, "n", "class A { int f = @@read; }", 5);
        broken(2, "n", "class A { static bool f = !@@true; }", 5);
        broken(2, "n", "class A { int f; void m() { if (true) print @@f; } }", 5);
        broken(2, "n", "class A { int f; void m() { while (@@f == 1) { } } }", 5);
        broken(2, "n", "class A { void m(int p) { while (p < 1) p = @p + @1; } }", 5);
        broken(2, "n", "class A { void m(int p) { if (p < 1) { } else p = @p + @1; } }", 5);
        broken(2, "n", "class A { void m(int p) { if (p < 1) if (@p < @2) { } } }", 5);
        broken(2, "n", "class A { void m(int p) { if (p < 1) while (@p < @2) { } } }", 5);
        broken(2, "n", "class A { int k() { return 1; } void m() { print @k(@); } }", 6);
        broken(2, "n", "class A { void m() { print 1 + @2 / @1; } }", 6);
        broken(2, "n", "class A { void m() { A a = @new A(@); } }", 6);
        broken(2, "n", "class A { int f; void m() { print -@(f@); } }", 6);
        // T by the exp's own type.
        String two = "class Abc { Abc a; } class Bcdefghijkl { } class C extends Abc { void m(Abc x, C y, Bcdefghijkl z) { ";
        done(2, "n", two + "x = @@y; } }", two + "C n = y; x = n; } }");
        done(2, "n", two + "x = @@this; } }", two + "C n = this; x = n; } }");
        done(2, "n", two + "y.a = @@x; } }", two + "Abc n = x; y.a = n; } }");
        done(2, "n", two + "if (@@z == null) { } } }", two + "Bcdefghijkl n = z; if (n == null) { } } }");
        done(2, "n", two + "if (@z == @null) { } } }", two + "bool n = z == null; if (n) { } } }");
        done(2, "n", two + "if (y == null) { print @- @1; } } }", two + "if (y == null) { int n = - 1; print n; } } }");
        // In front of the S in which it stands, be it behind another one or the first one.
        done(2, "n", "class A { int m(int p) { if (p == @@2) { return 1; } else return 2; } }",
            "class A { int m(int p) { int n = 2; if (p == n) { return 1; } else return 2; } }");
        done(2, "n", "class A { int m(int p) {return@(1)+@p;} }", "class A { int m(int p) {int n = (1)+p; return n;} }");
        done(2, "n", "class A { void m(int p) {p=1;print@(p@)+1;} }", "class A { void m(int p) {p=1;int n = (p); print n+1;} }");
        done(2, "n", "class A { void m(int p) { while (p < 3) { { p = p + @@1; } } } }", "class A { void m(int p) { while (p < 3) { { int n = 1; p = p + n; } } } }");
        done(2, "n", "class A { A a; int f; void m(A p) { @@p.a.f = p.f; } }", "class A { A a; int f; void m(A p) { A n = p; n.a.f = p.f; } }");
        done(2, "n", "class A { A a; int f; void m(A p) { p.a.f = @- @2; } }", "class A { A a; int f; void m(A p) { int n = - 2; p.a.f = n; } }");
        done(2, "n", "class A { void m(int p) { m(p + @(p - 1@)); } }", "class A { void m(int p) { int n = (p - 1); m(p + n); } }");
        done(2, "n", "class A { void m(int p) { int k = @p // x\n + @1; } }", "class A { void m(int p) { int n = p // x\n + 1; int k = n; } }");
        // The local's NAME is known there already, or later on.
        newFault(2, "p", "class A { void m(int p) { print @@1; } }", "class A { void m(int p) { int ");
        newFault(2, "k", "class A { void m() { print @@1; int k = 2; } }", "class A { void m() { int k = 1; print k; int ");
        done(2, "k", "class A { void m() { print @@1; if (true) { } } void n() { int k = 2; } }",
            "class A { void m() { int k = 1; print k; if (true) { } } void n() { int k = 2; } }");
        broken(2, "f", "class A { int f; void m() { print @1 + @2; ~f = 1; print f; } }", 21);
    }

    // 3

    private static void takeOutMethodFaults() {
        String m = "class A { int f; int m(int a, int b) { ";
        String end = " } void k(int a) { return; } }";
        // 3: a return in them, be it deep; none beyond them.
        broken(3, "n", m + "@~return 1@;" + end, 3);
        broken(3, "n", m + "@if (a == 1) { while (true) { ~return 1; } } return 2@;" + end, 3);
        done(3, "n", m + "if (a == 1) return 1; @print a@; return 2;" + end, m + "if (a == 1) return 1; n(a); return 2; } void n(int a) { print a;" + end);
        done(3, "n", m + "if (a == 1) { @print 1@; return 1; } return 2;" + end, m + "if (a == 1) { n(); return 1; } return 2; } void n() { print 1;" + end);
        // 4: told in them, meant behind them: at once, later, deep.
        broken(3, "n", m + "@int x = 1@; ~x = 2; return x;" + end, 4);
        broken(3, "n", m + "@int x = 1; int y = 2@; if (a == 1) { print ~y; } return x;" + end, 4);
        done(3, "n", m + "@int x = 1; { int y = x; print y; @} int y = 2; return y;" + end,
            m + "n(); int y = 2; return y; } void n() { int x = 1; { int y = x; print y; }" + end);
        done(3, "n", m + "{ @int x = 1@; } { int x = 2; print x; } return 1;" + end, m + "{ n(); } { int x = 2; print x; } return 1; } void n() { int x = 1;" + end);
        // 3 ahead of 4, 4 of 5, 5 of 6.
        broken(3, "k", m + "@int x = 1; ~return 1@; print x;" + end, 3);
        broken(3, "k", m + "@int x = 1; a = 1; b = 2@; return ~x + a + b;" + end, 4);
        broken(3, "k", m + "@a = 1; ~b = 2@; return a + b;" + end, 5);
        // 5: which are in front of = in them, and meant behind them.
        broken(3, "n", m + "int c = 3; @a = 1; b = 1; ~c = 2@; return a + c;" + end, 5);
        broken(3, "n", m + "@b = 2; b = 3; { ~a = 1; } a = 2@; b = a; return 1;" + end, 5);
        done(3, "n", m + "@a = 1; b = 2@; return b;" + end, m + "b = n(a, b); return b; } int n(int a, int b) { a = 1; b = 2; return b;" + end);
        done(3, "n", m + "@a = 1; b = a@; a = 3; return 1;" + end, m + "a = n(a, b); a = 3; return 1; } int n(int a, int b) { a = 1; b = a; return a;" + end);
        done(3, "n", m + "@b = 1; a = b@; return a;" + end, m + "a = n(a, b); return a; } int n(int a, int b) { b = 1; a = b; return a;" + end);
        done(3, "n", m + "a = 2; @print a + b@; b = 1; return a + b;" + end, m + "a = 2; n(a, b); b = 1; return a + b; } void n(int a, int b) { print a + b;" + end);
        done(3, "n", m + "@a = 1@; return b;" + end, m + "n(a); return b; } void n(int a) { a = 1;" + end);
        done(3, "n", m + "@f = 1; this.f = 2; print f@; return f;" + end, m + "n(); return f; } void n() { f = 1; this.f = 2; print f;" + end);
        // A local that is told in them is none of these.
        done(3, "n", m + "@int c = 1; c = 2; a = c@; return a;" + end, m + "a = n(a); return a; } int n(int a) { int c = 1; c = 2; a = c; return a;" + end);
        // There is a while around them: then all count that were told before them.
        broken(3, "n", m + "while (a < 9) { @a = a + 1; ~b = 2@; } return 1;" + end, 5);
        broken(3, "n", m + "while (a < 9) { int c = 1; if (b == 1) { @c = 2; ~a = 1@; } } return 1;" + end, 5);
        done(3, "n", m + "while (a < 9) { { @b = 2; print a@; } } return 1;" + end,
            m + "while (a < 9) { { b = n(a, b); } } return 1; } int n(int a, int b) { b = 2; print a; return b;" + end);
        done(3, "n", m + "while (a < 9) { } @a = 1; b = 2@; return a;" + end,
            m + "while (a < 9) { } a = n(a, b); return a; } int n(int a, int b) { a = 1; b = 2; return a;" + end);
        done(3, "n", m + "@while (a < 9) { a = a + 1; b = 2; @} return a;" + end,
            m + "a = n(a, b); return a; } int n(int a, int b) { while (a < 9) { a = a + 1; b = 2; } return a;" + end);
        // 6: with as many params as are meant in them and told before.
        String three = "class A { void n(int a) { } void n(bool a, bool b) { } } class B extends A { void m(int a, int b, int c) { ";
        String below = " } } class C extends B { void n(int a, int b, int c) { } } class D extends A { void n() { } }";
        broken(3, "n", three + "@print a; int d = c; int e = d@;" + below, 6);
        broken(3, "n", three + "@print a@;" + below, 6);
        broken(3, "n", three + "@print a + b + c@;" + below, 6);
        done(3, "n", three + "int d = 1; @print 1; int e = 1; print e@;" + below, three + "int d = 1; n(); } void n() { print 1; int e = 1; print e;" + below);
        done(3, "n", three + "int d = a; @print a + b + c + d@;" + below,
            three + "int d = a; n(a, b, c, d); } void n(int a, int b, int c, int d) { print a + b + c + d;" + below);
        broken(3, "m", "class A { void m() { @print 1@; } }", 6);
        broken(3, "m", "class A { static void m() { @print 1@; } }", 6);
        done(3, "m", "class A { void m(int a) { @print 1@; } }", "class A { void m(int a) { m(); } void m() { print 1; } }");
    }

    private static void takeOutMethod() {
        // T of params and of OUT by their NAMES; of what is told before and meant in them, in the order in which it is told.
        String m = "class Abc { } class Xyz { static void m(bool b, Abc abc, Xyz x, int i) { int j = 1; ";
        done(3, "take", m + "@x = null; if (abc == null) i = j@; print i; } }",
            m + "i = take(abc, x, i, j); print i; } static int take(Abc abc, Xyz x, int i, int j) { x = null; if (abc == null) i = j; return i; } }");
        done(3, "take", m + "@x = null@; x = x; } }", m + "x = take(x); x = x; } static Xyz take(Xyz x) { x = null; return x; } }");
        done(3, "take", m + "@b = j == i@; if (b) { } } }", m + "b = take(b, i, j); if (b) { } } static bool take(bool b, int i, int j) { b = j == i; return b; } }");
        done(3, "take", "class A { int f; void m() { @{ int k = f; f = k; @} } int g; }",
            "class A { int f; void m() { take(); } void take() { { int k = f; f = k; } } int g; }");
        // A local of another block of the same NAME is another one.
        done(3, "n", "class A { void m() { { int k = 1; print k; } @int k = 2; print k@; } }",
            "class A { void m() { { int k = 1; print k; } n(); } void n() { int k = 2; print k; } }");
        // The COPY has all of its bytes, from the first token to the last one.
        done(3, "n", "class A{void m(int a){print a;@print // x\n a ; print\ta@;print a;}}",
            "class A{void m(int a){print a;n(a);print a;} void n(int a) { print // x\n a ; print\ta; }}");
        // What the new program then has: a param too much, a member too much, a NAME of another member.
        String eight = "class A { void m(int a, int b, int c, int d, int e, int f, int g, int h) { ";
        done(3, "n", eight + "@print a + b + c + d + e + f + g + h@; } }",
            eight + "n(a, b, c, d, e, f, g, h); } void n(int a, int b, int c, int d, int e, int f, int g, int h) { print a + b + c + d + e + f + g + h; } }");
        String members = "class A { " + numbered("int x", 22, "; ");
        done(3, "n", members + "void m() { @print 1@; } }", members + "void m() { n(); } void n() { print 1; } }");
        newFault(3, "n", members + "int y; void m() { @print 1@; } }", members + "int y; void m() { n(); } void ");
        done(3, "f", "class A { int f; void m() { @print f@; } }", "class A { int f; void m() { f(); } void f() { print f; } }");
    }

    private static String numbered(String head, int n, String tail) {
        StringBuilder s = new StringBuilder();
        for (int i = 0; i < n; i++) {
            s.append(head).append(i).append(tail);
        }
        return s.toString();
    }

    // 4

    private static void putInMethod() {
        for (String body : new String[] {"", "print 1;", "{ }", "k();", "return;"}) {
            broken(4, "", "class A { void @m() { " + body + " } int k() { return 1; } }", 3);
        }
        for (String body : new String[] {"{ return 1; }", "return 1; return 2;", "print 1; return 1;", "return 1; print 1;", "if (true) return 1; return 2;",
            "if (true) return 1; else return 2;", "int a = 1; return a;"}) {
            broken(4, "", "class A { int @m() { " + body + " } }", 3);
        }
        // 3 ahead of 4, 4 of 5, 5 of 6, 6 of 7.
        broken(4, "", "class A { int @m() { { return 1; } } } class B extends A { int m() { return 2; } }", 3);
        broken(4, "", "class A { int @m() { return m(); } } class B extends A { int m() { return 2; } }", 4);
        broken(4, "", "class A { int m() { return 1; } } class B extends A { int @m() { return 2; } }", 4);
        broken(4, "", "class A { int m() { return 1; } } class B extends A { int @m() { return 2; } } class C extends A { int m() { return 3; } }", 4);
        broken(4, "", "class A { int @m(int a) { return this.m(read); } }", 5);
        broken(4, "", "class A { static int @m(int a) { return 1 + A.m(a); } }", 5);
        broken(4, "", "class A { int @m(int a) { return 1; } void n(A b) { print b.m(~read); } }", 6);
        broken(4, "", "class A { int @m(int a, int b) { return 1; } void n() { print m(1, ~m(1, 2)); } }", 6);
        broken(4, "", "class A { int @m(int a, int b) { return 1; } void n() { print m(1, ~(-read)) + m(read, 1); } }", 6);
        broken(4, "", "class A { int @m() { return 1; } A a; void n() { print this.m() + a.~m() + new A().m(); } }", 7);
        broken(4, "", "class A { int @m() { return 1; } A a; void n() { print (this).~m() + a.m(); } }", 7);
        broken(4, "", "class A { int @m() { return 1; } A a; void n() { print this.a.~m(); } }", 7);
        // A call by an heir's this, or alone there, is one of this.
        done(4, "", "class A { int f; int @m(int a) { return a + f; } } class B extends A { void n() { print this.m(1) + m(2); } }",
            "class A { int f;  } class B extends A { void n() { print (1 + f) + (2 + f); } }");
        // With its e: this, or CLASS, of an heir too.
        done(4, "", "class A { static int s; static int @m(int a) { return a; } void k() { print m(1) + A . m(2) + B.m(3); } } class B extends A { }",
            "class A { static int s;  void k() { print (1) + (2) + (3); } } class B extends A { }");
        // One token stands without ( ), another exp in ( ); a param as often as it is meant.
        done(4, "", "class A { int @m(int a, int b, A c) { return a * a - b; } void k(int x) { print m(1 + x, (x), null) % 2; print m(x, -x, this); } }",
            "class A {  void k(int x) { print ((1 + x) * (1 + x) - ((x))) % 2; print (x * x - (-x)); } }");
        done(4, "", "class A { int @m() { return 7; } int k(int x) { return m(); } void l() { k(m()); } }",
            "class A {  int k(int x) { return (7); } void l() { k((7)); } }");
        done(4, "", "class A { int @m(int a) { return // x\n a +// y\n a ; } int k() { return m ( 1 // z\n ); } }",
            "class A {  int k() { return (1 +// y\n 1); } }");
        // Called nowhere; all of an S; null for a param.
        done(4, "", "class A { int @m() { return read / 2; } }", "class A {  }");
        newFault(4, "", "class A { int @m() { return 1; } void k() { m(); } }", "class A {  void k() { ");
        done(4, "", "class A { bool @m(A a) { return a == null; } void k() { if (m(null)) { } } }", "class A {  void k() { if ((null == null)) { } } }");
        newFault(4, "", "class A { int f; int @m(A a) { return a.f; } void k() { print m(null); } }", "class A { int f;  void k() { print (");
        // What its exp means where it comes.
        newFault(4, "", "class A { int f; int @m() { return f; } } class B { static void k(A a) { } } class C extends A { static int s; int l() { return m(); } "
            + "int g = m(); static int t = s; bool f0 = true; bool h() { return m() == 1; } } class D extends C { bool f = true; int z() { return m(); } }",
            "class A { int f;  } class B { static void k(A a) { } } class C extends A { static int s; int l() { return (f); } int g = (f); static int t = s; "
            + "bool f0 = true; bool h() { return (f) == 1; } } class D extends C { bool f = true; int z() { return ");
        broken(4, "", "class A { int f; int @m() { return ~f; } } class B extends A { int f; int z() { return m(); } }", 21);
        broken(4, "", "class A { int @m(int p) { return p + ~k(); } int k() { return 1; } } class B extends A { int k() { return 2; } int z() { return m(1); } }", 21);
    }

    // 5

    private static void shutField() {
        broken(5, "get", "class A { static int @s; void m() { s = 1; } }", 3);
        broken(5, "get", "class A { int @f; } class B { static void m(A a) { int x = a.f; a.~f = 1; a.f = 2; } }", 4);
        broken(5, "get", "class A { A @f; int g; } class B { void m(A a) { a.f.g = 1; a.f.~f = null; } }", 4);
        done(5, "get", "class A { A @f; int g; } class B { void m(A a) { a.f.g = 1; a.f.f.g = a.f.g; } }",
            "class A { A f; A get() { return f; } int g; } class B { void m(A a) { a.get().g = 1; a.get().get().g = a.get().g; } }");
        // In its own class all stays.
        done(5, "get", "class A { int @f = 1; int h = f; void m(A a) { f = 2; a.f = a.f + f; } } class B extends A { int h = f; }",
            "class A { int f = 1; int get() { return f; } int h = f; void m(A a) { f = 2; a.f = a.f + f; } } class B extends A { int h = get(); }");
        done(5, "fetch", "class Abc { } class A { Abc @f=null;} class B { bool m(A a) { return a.f==null; } }",
            "class Abc { } class A { Abc f=null; Abc fetch() { return f; }} class B { bool m(A a) { return a.fetch()==null; } }");
        done(5, "f", "class A { int @f; }", "class A { int f; int f() { return f; } }");
        // In other FILES.
        House x = House.of("class A { bool f; }");
        x.load(2, "class B extends A { bool g = f; } class C { bool h = new B().f; }");
        House.due("ask", x.ask(5, 15, 0, "is"), 0);
        House.due("EDITS", x.h.edits(), 3);
        House.due("EDIT 0", x.edit(0), "17-0: bool is() { return f; }");
        House.due("EDIT 1", x.edit(1), "20029-1:is()");
        House.due("EDIT 2", x.edit(2), "20061-1:is()");
        // A method of the NAME is there.
        newFault(5, "m", "class A { int @f; void m() { } }", "class A { int f; int m() { return f; } void ");
        newFault(5, "m", "class A { void m() { } } class B extends A { int @f; }", "class A { void m() { } } class B extends A { int f; int ");
        newFault(5, "m", "class A { int @f; } class B extends A { void m() { } }", "class A { int f; int m() { return f; } } class B extends A { void ");
        newFault(5, "n", "class A { " + numbered("int x", 23, "; ") + "int @f; }", "class A { " + numbered("int x", 23, "; ") + "int f; int ");
    }

    // 6 and 7

    private static void pullAndPush() {
        broken(6, "", "class A { int @f; } class B extends A { }", 3);
        broken(7, "B", "class A { int @f; }", 3);
        broken(7, "A", "class A { int @f; }", 3);
        broken(7, "A", "class A { } class B extends A { int @f; }", 3);
        broken(7, "C", "class A { int @f; } class B extends A { } class C extends B { } class b extends A { }", 3);
        broken(7, "C", "class A { int @f; } class C { }", 3);
        // Of several classes above the next one, of any sort of member, as it stands.
        done(6, "", "class A { } class B extends A { } class C extends B { int f;static A @g // x\n =  null ;bool h; }",
            "class A { } class B extends A { static A g // x\n =  null ; } class C extends B { int f;bool h; }");
        done(6, "", "class A {} class B extends A{int @m(int a){return a;}}", "class A {int m(int a){return a;} } class B extends A{}");
        done(6, "", "class A { int f; } class B extends A { void @m(A a) { print f; } void k() { m(this); this.m(null); } }",
            "class A { int f; void m(A a) { print f; } } class B extends A {  void k() { m(this); this.m(null); } }");
        done(7, "B", "class A { int f; void @m() { f = 1; } } class B extends A { } class C extends A { }",
            "class A { int f;  } class B extends A { void m() { f = 1; } } class C extends A { }");
        done(7, "C", "class A { static int @s = 1; } class B extends A { } class C extends A { int f = s; int g = C.s; }",
            "class A {  } class B extends A { } class C extends A { int f = s; int g = C.s; static int s = 1; }");
        // The other class stands in front, or in another FILE.
        House x = House.of("class B extends A { int f = 1; }");
        x.load(3, "class A { }");
        House.due("pull up", x.ask(6, 24, 0, ""), 0);
        House.due("EDITS", x.h.edits(), 2);
        House.due("EDIT 0", x.edit(0), "20-10:");
        House.due("EDIT 1", x.edit(1), "30010-0:int f = 1; ");
        x.h.apply();
        House.due("push down", x.told(x.ask(7, 30014, 0, "B")), "0");
        House.due("EDIT 0", x.edit(0), "21-0:int f = 1; ");
        House.due("EDIT 1", x.edit(1), "30010-10:");
        // What means it elsewhere, what it means elsewhere.
        newFault(7, "B", "class A { int @f; } class B extends A { } class C extends A { int g = f; }", "class A {  } class B extends A { int f; } class C extends A { int g = ");
        newFault(7, "B", "class A { static int @s; } class B extends A { } class C { int g = A.s; }",
            "class A {  } class B extends A { static int s; } class C { int g = A.");
        newFault(6, "", "class A { } class B extends A { int f; int @g = f; }", "class A { int g = ");
        newFault(6, "", "class A { } class B extends A { void @m() { B b = this; } }", "class A { void m() { B b = ");
        newFault(6, "", "class A { " + numbered("int x", 24, "; ") + "} class B extends A { int @f; }", "class A { " + numbered("int x", 24, "; ") + "int ");
        newFault(6, "", "class A { int f; } class B extends A { bool @f; }", "class A { int f; bool ");
        newFault(6, "", "class A { int m() { return 1; } } class B extends A { int @m() { return 2; } }", "class A { int m() { return 1; } int ");
    }

    // 8

    private static void signature() {
        String m = "class A { void @m(int a, int b, int c) { } void k() { m(1, 2, 3); } }";
        for (String bad : new String[] {"3", "9", "00", "11", "0120", "0123", "010", "21021", "0000000000000", "01234567890"}) {
            broken(8, bad, m, 3);
        }
        String[][] good = {{"012", "int a, int b, int c", "1, 2, 3"}, {"210", "int c, int b, int a", "3, 2, 1"}, {"1", "int b", "2"}, {"20", "int c, int a", "3, 1"},
            {"", "", ""}, {"2", "int c", "3"}, {"01", "int a, int b", "1, 2"}};
        for (String[] g : good) {
            done(8, g[0], m, "class A { void m(" + g[1] + ") { } void k() { m(" + g[2] + "); } }");
        }
        broken(8, "0", "class A { void @m() { } }", 3);
        String eight = "int a, bool b, A c, int d, int e, int f, int g, int h";
        done(8, "76543210", "class A { void @m(" + eight + ") { } void k() { m(1, true, null, 4, 5, 6, 7, 8); } }",
            "class A { void m(int h, int g, int f, int e, int d, A c, bool b, int a) { } void k() { m(8, 7, 6, 5, 4, null, true, 1); } }");
        broken(8, "8", "class A { void @m(" + eight + ") { } }", 3);
        // 3 ahead of 4, 4 of 5; the least place of each.
        broken(8, "1", "class A { void @m(int a) { print a; } }", 3);
        broken(8, "1", "class A { void @m(int a, int b) { ~a = 1; m(read, a); } }", 4);
        broken(8, "2", "class A { void @m(int a, int b, int c) { print c + ~b; print a; } }", 4);
        broken(8, "", "class A { void m(int a) { } } class B extends A { void m(int x) { print ~x; } } class C extends A { void @m(int y) { print y; } }", 4);
        broken(8, "0", "class A { void @m(int a, int b) { print a; } void k() { m(1, ~read); } }", 5);
        broken(8, "01", "class A { int f; void @m(int a, int b) { } void k() { m(~1 / 1 * 0 + 1, f); m(f, f); } }", 5);
        broken(8, "0", "class A { void m(int a) { } } class B extends A { void @m(int a) { } void k(A a) { a.m(~read); } }", 5);
        // Its own NAME is no meaning; a param of the same NAME of another method is another one.
        done(8, "", "class A { void @m(int a) { } void k(int a) { print a; m(a); } }", "class A { void m() { } void k(int a) { print a; m(); } }");
        // What is within ( ) goes with all blanks and remarks, T, NAME and arguments are COPIES.
        done(8, "10", "class A { void @m ( int  a // x\n , A b ) { } void k() { this . m ( 1  +  2 , // y\n null ) ; } }",
            "class A { void m (A b, int a) { } void k() { this . m (null, 1  +  2) ; } }");
        // Calls of all the FAMILY, nothing of another method.
        done(8, "", "class A { void @m(int a) { } void m(bool a) { } } class B extends A { void m(int b) { m(1); m(true); } } class C { void m(int a) { m(2); } "
            + "void k(B b) { b.m(3); b.m(false); } }",
            "class A { void m() { } void m(bool a) { } } class B extends A { void m() { m(); m(true); } } class C { void m(int a) { m(2); } "
            + "void k(B b) { b.m(); b.m(false); } }");
        done(8, "10", "class A { static int @m(int a, bool b) { return a; } int f = m(1, true) + A.m(2, false); }",
            "class A { static int m(bool b, int a) { return a; } int f = m(true, 1) + A.m(false, 2); }");
        newFault(8, "0", "class A { void @m(int a, int b) { } void m(int c) { } }", "class A { void m(int a) { } void ");
        newFault(8, "10", "class A { void m(bool a, int b) { } void @m(int a, bool b) { } }", "class A { void m(bool a, int b) { } void ");
        broken(8, "1", "class A { void @m(int a, int b) { } } class B extends A { void ~m(int b) { } }", 22);
        // A call that then means another one.
        broken(8, "0", "class A { int m(B a) { return 1; } int @m(A a, int b) { return 2; } int k(B b) { return ~m(b, 1); } } class B extends A { }", 21);
    }

    // 9

    private static void move() {
        broken(9, "B", "class A { static int @s; }", 3);
        broken(9, "a", "class A { static int @s; } class B { }", 3);
        broken(9, "A", "class A { static int @s; } class B { }", 3);
        broken(9, "s", "class A { static int @s; } class B { }", 3);
        broken(9, "B", "class A { void @m() { } } class B { }", 1);
        // Alone that class's NAME and . come in front, wherever it is meant; behind CLASS. that NAME becomes the other one's.
        done(9, "Other", "class A { static int @s; int f = s; void m(int p) { s = s+s; if (-s < p) { A.s = A . s; } } } class B extends A { int g = s + B.s; } "
            + "class C { int h = A.s+B.s; } class Other extends A { int i = s + Other.s; static int t = A.s; }",
            "class A {  int f = Other.s; void m(int p) { Other.s = Other.s+Other.s; if (-Other.s < p) { Other.s = Other . s; } } } class B extends A { "
            + "int g = Other.s + Other.s; } class C { int h = Other.s+Other.s; } class Other extends A { int i = Other.s + Other.s; static int t = Other.s; "
            + "static int s; }");
        done(9, "B", "class A { static int @m(int a) { return a; } int k() { return m(m(1)) + A.m(A.m(2)); } } class B { }",
            "class A {  int k() { return B.m(B.m(1)) + B.m(B.m(2)); } } class B { static int m(int a) { return a; } }");
        done(9, "B", "class A{static int @s;int k(){return(s);}int l(){return s;}}class B{}",
            "class A{int k(){return(B.s);}int l(){return B.s;}}class B{static int s; }");
        // In the COPY: other static members that are meant alone; those behind CLASS. and what is told in it stay.
        done(9, "B", "class Up { static int u; static int v() { return u; } } class A extends Up { static int t; static int k(int a) { return a; } "
            + "static int @m(int p, A o) { int l = t + u; t = l; Up.u = k(v()) + A.k(A.t) + Up.v() + o.f; return l - p; } int f; } class B { }",
            "class Up { static int u; static int v() { return u; } } class A extends Up { static int t; static int k(int a) { return a; } "
            + " int f; } class B { static int m(int p, A o) { int l = A.t + Up.u; A.t = l; Up.u = A.k(Up.v()) + A.k(A.t) + Up.v() + o.f; return l - p; } }");
        done(9, "B", "class A { static int t = 1; static int @s = t + -t; static bool z = s == 1; } class B { }",
            "class A { static int t = 1;  static bool z = B.s == 1; } class B { static int s = A.t + -A.t; }");
        // What means it in itself is changed as elsewhere.
        done(9, "B", "class A { static int @m(int a) { if (a < 1) return m(a + 1); return A.m(2); } } class B { }",
            "class A {  } class B { static int m(int a) { if (a < 1) return B.m(a + 1); return B.m(2); } }");
        // In front of it, and in another FILE.
        House x = House.of("class B { } class A { static int s = 1; int f = s; }");
        x.load(1, "class C { int g = A.s; }");
        House.due("ask", x.told(x.ask(9, 33, 0, "C")), "0");
        House.due("EDITS", x.h.edits(), 4);
        House.due("EDIT 0", x.edit(0), "22-17:");
        House.due("EDIT 1", x.edit(1), "48-0:C.");
        House.due("EDIT 2", x.edit(2), "10018-1:C");
        House.due("EDIT 3", x.edit(3), "10023-0:static int s = 1; ");
        // What has the NAME there.
        newFault(9, "B", "class A { static int @s; } class B { int s; }", "class A {  } class B { int s; static int ");
        newFault(9, "B", "class A { static void @m() { } } class B extends C { } class C { void m() { } }",
            "class A {  } class B extends C { static void ");
        newFault(9, "B", "class A { static int @s; int k(int B) { return s; } } class B { }", "class A {  int k(int B) { return ");
        // A field of its NAME hides the class: what comes in front of . means that.
        newFault(9, "B", "class A { static int @s; C B; int k() { return s; } } class B { } class C { int t; }",
            "class A {  C B; int k() { return B.");
    }

    // 10

    private static void drop() {
        // 3 ahead of 4, 4 of 5.
        broken(10, "", "class A { int @f = read; int g = ~f; }", 3);
        broken(10, "", "class A { void @m() { } void k() { ~m(); } } class B extends A { void m() { } }", 3);
        broken(10, "", "class A { static void @main() { } void k() { ~main(); } }", 3);
        broken(10, "", "class A { void m() { int @a = read; { print ~a; } } }", 3);
        for (String e : new String[] {"k()", "read", "g", "this.g", "1 / 1", "-(1 % 1)", "A.s"}) {
            broken(10, "", "class A { int @f = ~" + e + "; int g; static int s; int k() { return 1; } }", 4);
            broken(10, "", "class A { int g; static int s; int k() { return 1; } void m() { int @a = ~" + e + "; } }", 4);
        }
        broken(10, "", "class A { static A @f = ~new A(); }", 4);
        for (String e : new String[] {"1", "-(2 * 3)", "(4)"}) {
            done(10, "", "class A { int @f = " + e + "; }", "class A {  }");
            done(10, "", "class A { void m() { int @a = " + e + "; } }", "class A { void m() {  } }");
        }
        broken(10, "", "class A { void m() { } } class B extends A { void @m() { } }", 5);
        broken(10, "", "class A { void m() { } } class B extends A { void @m() { } } class C extends A { void m() { } }", 5);
        done(10, "", "class A { void @m() { } } class B extends A { void m(int a) { } } class C { void m() { } }",
            "class A {  } class B extends A { void m(int a) { } } class C { void m() { } }");
        // main, static, void, without params; nothing less is.
        broken(10, "", "class A { } class B { static void @main() { } }", 5);
        for (String m : new String[] {"void @main()", "static void @main(int a)", "static void @mains()", "static void @Main()", "static void @mai()"}) {
            done(10, "", "class A { " + m + " { } }", "class A {  }");
        }
        done(10, "", "class A { static int @main() { return 1; } }", "class A {  }");
        // Beyond its own S, member, class nothing means it.
        done(10, "", "class A { int @m(int a) { return m(a - 1) + this.m(2); } }", "class A {  }");
        done(10, "", "class @A { A a = new A(); static A b; A m(A a) { return A.b; } } class B { }", " class B { }");
        broken(10, "", "class @A { } class B { void m(~A a) { } }", 3);
        broken(10, "", "class @A { } class B { bool b = new ~A() == null; }", 3);
        broken(10, "", "class @A { static int s; } class B { int b = ~A.s; }", 3);
        broken(10, "", "class @A { } class B extends ~A { }", 3);
        broken(10, "", "class B { ~A a; } class @A { }", 3);
        broken(10, "", "class A { void m() { int @a = 1; if (true) { ~a = 2; } } }", 3);
        broken(10, "", "class A { int @f = 1; } class B extends A { int g = ~f; }", 3);
        // All of another S; a static field; with its blanks and remarks.
        newFault(10, "", "class A { void m() { if (true) int @a = 1; } }", "class A { void m() { if (true)  ");
        done(10, "", "class A{static A @f=// x\nnull;int g;}", "class A{int g;}");
        done(10, "", "class B { } class @A extends B { int f = read; void m() { } static void main() { } }", "class B { } ");
        // Then another field or method is meant there: it is not asked of, but told by 21, or 3 is.
        broken(10, "", "class A { int f; } class B extends A { int @f; int g = ~f; }", 3);
    }

    // 11

    private static void turnIf() {
        broken(11, "", "class A { void m(bool b) { @if (b) { if (b) { } else { } } } }", 3);
        broken(11, "", "class A { void m(bool b) { @if (b) return; } }", 3);
        // An else is of the nearest if.
        broken(11, "", "class A { void m(bool b) { @if (b) if (b) { } else { } } }", 3);
        done(11, "", "class A { void m(bool b) { if (b) @if (!b) print 1; else print 2; } }",
            "class A { void m(bool b) { if (b) if (!(!b))  { print 2; }  else  { print 1; }  } }");
        done(11, "", "class A { void m(bool b) { @if (b) if (b) print 1; else print 2; else print 3; } }",
            "class A { void m(bool b) { if (!(b))  { print 3; }  else  { if (b) print 1; else print 2; }  } }");
        done(11, "", "class A{void m(bool b){@if((b))return;else{b=b // x\n;}}}", "class A{void m(bool b){if(!((b))) { {b=b // x\n;} } else { return; } }}");
        done(11, "", "class A { int k; } class B { int m(bool b) { @if (b || !b) return 1; else return 2; } }",
            "class A { int k; } class B { int m(bool b) { if (!(b || !b))  { return 2; }  else  { return 1; }  } }");
        // A local that is all of an S is known nowhere then, too.
        done(11, "", "class A { int x; int m(bool b) { @if (b) int x = 1; else print x; return x; } }",
            "class A { int x; int m(bool b) { if (!(b))  { print x; }  else  { int x = 1; }  return x; } }");
        // 20 nests at most: S, { and what stands in it.
        String deep = "class A { void m(bool a) { " + House.times(17, "{ ");
        newFault(11, "", deep + "@if (a) a = a; else a = !a;" + House.times(19, " }"), deep + "if (!(");
        String less = "class A { void m(bool a) { " + House.times(16, "{ ");
        done(11, "", less + "@if (a) a = a; else a = !a;" + House.times(18, " }"), less + "if (!(a))  { a = !a; }  else  { a = a; } " + House.times(18, " }"));
    }

    // 20 to 22

    private static void condition20() {
        // 3000 bytes are not too many; 3001 are, at byte 0 of the FILE.
        for (int f = 0; f < 4; f++) {
            House x = new House();
            String text = "class A" + f + " { int f; int g = f; }";
            x.load(f, text + House.times(2989 - text.length(), " "));
            House.due("3011", x.told(x.ask(0, 10000 * f + 15, 0, "abcdefghijkl")), "20@" + 10000 * f);
            House.due("3001", x.told(x.ask(0, 10000 * f + 15, 0, "abcdefg")), "20@" + 10000 * f);
            House.due("2999", x.told(x.ask(0, 10000 * f + 15, 0, "abcdef")), "0");
            x.load(f, text + House.times(2990 - text.length(), " "));
            House.due("3000", x.told(x.ask(0, 10000 * f + 15, 0, "abcdef")), "0");
            House.due("apply", x.h.apply(), 1);
            House.due("3000 bytes", x.h.size(f), 3000);
            House.due("3002", x.told(x.ask(0, 10000 * f + 15, 0, "abcdefg")), "20@" + 10000 * f);
        }
        // FILE by FILE; this ahead of the FAULT of the same FILE, a FAULT of one ahead of what is behind.
        House y = House.of("class A { } class B extends A { " + numbered("int x", 24, "; ") + "}");
        String fat = "class C extends B { int f; } //";
        y.load(1, fat + House.times(3000 - fat.length(), "x"));
        House.due("a 25th member", y.told(y.ask(6, 10024, 0, "")), "20@" + (y.text(0).length() - 1 + 4));
        House z = House.of("class A { } //" + House.times(2986, "x"));
        z.load(1, "class B extends A { int f = g; int g; }");
        House.due("too long ahead of an ERROR", z.told(z.ask(6, 10024, 0, "")), "20@0");
        z.load(0, "class A { }");
        House.due("an ERROR", z.told(z.ask(6, 10024, 0, "")), "20@18");
        // FAULTS of all FILES ahead of ERRORS.
        House w = House.of("class A { static int s; int f = s; }");
        w.load(2, "class B { " + numbered("int x", 24, "; ") + "}");
        House.due("a FAULT behind", w.told(w.ask(9, 21, 0, "B")), "20@" + (20000 + w.text(2).length() - 1 + 11));
        // What comes may be more than 3000 bytes, of which a FILE is too long.
        String local = "class A { void m() { int a = 1" + House.times(120, "+1") + "; " + House.times(20, "f(a); ") + "} void f(int x) { } }";
        House v = House.of(local);
        House.due("very much too long", v.told(v.ask(1, 25, 0, "")), "20@0");
        House.due("no EDITS", v.h.edits(), 0);
        House.due("as it was", v.text(0), local);
        // 600 tokens are not too many; the 601st is, at its place: nine go, and six more come twice.
        String head = "class A { void m(int p) { ";
        String fill = House.times(189, "print 1; ");
        done(1, "", head + "int @a = p - p - p; print a; print a; print 1; " + fill + "} }", head + " print (p - p - p); print (p - p - p); print 1; " + fill + "} }");
        newFault(1, "", head + "int @a = p - p - p; print a; print a; { } { } " + fill + "} }",
            head + " print (p - p - p); print (p - p - p); { } { } " + fill + "} ");
    }

    private static void condition21() {
        // Another one is meant now: at the OLD one, the least.
        broken(0, "g", "class A { int @f; } class B extends A { int g; int h = ~f; int i = f; }", 21);
        broken(0, "f", "class A { int f; } class B extends A { int @g; int h = ~f; int i = f; }", 21);
        broken(0, "f", "class A { int f; void m() { int @g = 1; { print ~f + f; } print g; } }", 21);
        broken(0, "m", "class A { int m(A a) { return 1; } int @k(B b) { return 2; } int l(B b) { return ~m(b) + k(b); } } class B extends A { }", 21);
        done(0, "m", "class A { int m(A a) { return 1; } int @k(B b) { return 2; } int l(A a, B b) { return m(a) + k(b); } } class B extends A { }",
            "class A { int m(A a) { return 1; } int m(B b) { return 2; } int l(A a, B b) { return m(a) + m(b); } } class B extends A { }");
        // By FILE and byte.
        House x = House.of("class A { int f; int g = f; }");
        x.load(3, "class B extends A { int e; int h = f; }");
        x.load(1, "class C extends B { int i = f; }");
        House.due("the least", x.told(x.ask(0, 30024, 0, "f")), "21@10028");
        x.load(1, "");
        House.due("the least", x.told(x.ask(0, 30024, 0, "f")), "21@30035");
        // At a NAME without an OLD one: a local that came.
        broken(2, "f", "class A { int f; void m(int p) { print @p + @1; print ~f; f = 2; } }", 21);
        broken(2, "f", "class A { int f; void m(int p) { print f; print @p + @f; } }", 6);
        broken(3, "f", "class A { int f(int a) { return 1; } } class B extends A { void m(bool p) { @print p@; } int k() { return f(1); } }", 6);
        // NAMES that came anew have none.
        done(5, "f", "class A { int @g; } class B { int h = new A().g; }", "class A { int g; int f() { return g; } } class B { int h = new A().f(); }");
    }

    private static void condition22() {
        broken(0, "k", "class A { void k() { } } class B extends A { } class C extends B { void ~@m() { } }", 22);
        broken(0, "k", "class A { void @m() { } } class B extends A { void ~k() { } } class C extends B { void k() { } }", 22);
        done(0, "k", "class A { void @m() { } } class B { void k() { } }", "class A { void k() { } } class B { void k() { } }");
        done(0, "k", "class A { void @m(int a) { } } class B extends A { void k(bool a) { } void k() { } static void k(A a) { } }",
            "class A { void k(int a) { } } class B extends A { void k(bool a) { } void k() { } static void k(A a) { } }");
        broken(6, "", "class A { } class B extends A { void @m() { } } class C extends A { void ~m() { } } class D extends A { void m() { } }", 22);
        broken(7, "C", "class A { void @m() { } } class B extends A { void ~m() { } } class C extends A { }", 22);
        done(7, "B", "class A { void k() { } } class U extends A { void @m() { } } class B extends U { void k() { } }",
            "class A { void k() { } } class U extends A {  } class B extends U { void k() { } void m() { } }");
        broken(8, "", "class A { void @m(int a) { } } class B extends A { } class C extends B { void ~m() { } }", 22);
        broken(8, "10", "class A { void @m(int a, bool b) { } } class B extends A { void ~m(bool b, int a) { } }", 22);
        // 21 ahead of 22.
        broken(0, "k", "class A { void @m() { } } class B extends A { void k() { } void l(A a) { ~m(); k(); } }", 21);
        // A new method has no OLD one.
        done(3, "k", "class A { void m() { @print 1@; } } class B { void k() { } }", "class A { void m() { k(); } void k() { print 1; } } class B { void k() { } }");
        done(5, "k", "class A { int k() { return 1; } } class B extends A { int @f; }", "class A { int k() { return 1; } } class B extends A { int f; int k() { return f; } }");
    }

    // Promises 24 to 26.

    private static void edits() {
        House x = House.of("class A { int f; int g; int h = f; }");
        House.due("none was asked", x.h.edits(), 0);
        House.due("none", x.h.edit(0, 0), -1);
        House.due("nothing to do", x.h.apply(), -2);
        x.ask(0, 14, 0, "abc");
        House.due("two", x.h.edits(), 2);
        int[][] want = {{14, 1, 3, 'a', 'b', 'c'}, {32, 1, 3, 'a', 'b', 'c'}};
        for (int i = 0; i < 2; i++) {
            for (int what = 0; what < 6; what++) {
                House.due("EDIT " + i + " " + what, x.h.edit(i, what), want[i][what]);
            }
            for (int what : new int[] {-1, 6, 7, LEAST, MOST}) {
                House.due("EDIT " + i + " " + what, x.h.edit(i, what), -1);
            }
        }
        for (int i : new int[] {-1, 2, LEAST, MOST}) {
            House.due("EDIT " + i, x.h.edit(i, 0), -1);
        }
        // One by which nothing comes.
        x.ask(10, 21, 0, "");
        House.due("one", x.h.edits(), 1);
        House.due("its place", x.h.edit(0, 0), 17);
        House.due("gone", x.h.edit(0, 1), 6);
        House.due("none come", x.h.edit(0, 2), 0);
        House.due("no byte", x.h.edit(0, 3), -1);
        // What tells BAD or NO, or asks nothing, changes nothing.
        x.h.undo();
        x.h.redo();
        x.h.ask(12, 0, 0);
        x.h.put();
        x.h.load(9);
        x.h.run(5);
        x.h.run(1);
        x.h.twin(0, 0);
        x.h.twin(1, 0);
        x.h.alike(4);
        x.h.alike(5);
        x.recipe("1 ->");
        x.recipe("1 -> 2");
        x.h.judge();
        x.h.run(0);
        House.due("still one", x.h.edits(), 1);
        House.due("its place", x.h.edit(0, 0), 17);
        // A change that is not SOUND, by condition 1, 2, 3 and 20; put() too.
        int[][] no = {{0, 1}, {0, 14}, {8, 14}, {6, 14}};
        for (int[] n : no) {
            x.ask(10, 21, 0, "");
            House.due("SOUND", x.h.edits(), 1);
            House.due("not SOUND", x.ask(n[0], n[1], 0, "") > 0 ? 1 : 0, 1);
            House.due("none", x.h.edits(), 0);
            House.due("none", x.h.edit(0, 0), -1);
            House.due("nothing to do", x.h.apply(), -2);
        }
        x.ask(10, 21, 0, "");
        x.recipe("8 -> 9");
        House.due("put of none", x.h.put(), 1);
        House.due("none", x.h.edits(), 0);
        x.ask(10, 21, 0, "");
        House.due("done", x.h.apply(), 1);
        House.due("none", x.h.edits(), 0);
        House.due("nothing to do", x.h.apply(), -2);
        House.due("the text", x.text(0), "class A { int f;  int h = f; }");
        x.ask(0, 14, 0, "z");
        House.due("undo", x.h.undo(), 0);
        House.due("none", x.h.edits(), 0);
        x.ask(0, 14, 0, "z");
        House.due("redo", x.h.redo(), 1);
        House.due("none", x.h.edits(), 0);
        House.due("nothing to do", x.h.apply(), -2);
        x.ask(0, 14, 0, "z");
        House.due("a load", x.load(3, ""), 0);
        House.due("none", x.h.edits(), 0);
        // The latest one that was asked counts.
        x.ask(0, 14, 0, "z");
        x.ask(0, 6, 0, "Z");
        House.due("the latest", x.edit(0), "6-1:Z");
        House.due("apply", x.h.apply(), 1);
        House.due("the text", x.text(0), "class Z { int f;  int h = f; }");
        // By PLACES, FILE by FILE.
        House y = House.of("class B extends A { int g = s; }");
        y.load(1, "class A { static int s; int t = s; }");
        y.load(2, "class C { int h = A.s; }");
        House.due("ask", y.ask(9, 10021, 0, "B"), 0);
        String[] all = {"28-0:B.", "31-0:static int s; ", "10010-13:", "10032-0:B.", "20018-1:B"};
        House.due("EDITS", y.h.edits(), all.length);
        for (int i = 0; i < all.length; i++) {
            House.due("EDIT " + i, y.edit(i), all[i]);
        }
    }

    /** As much as can come: in four FILES, each of them full behind the change. */
    private static void wideEdits() {
        House x = new House();
        int[] uses = new int[4];
        for (int f = 0; f < 4; f++) {
            String head = "class A" + f + (f == 0 ? " { static int f; int g = f" : " extends A0 { int g" + f + " = f");
            int most = (3000 - head.length() - 14 - (f == 0 ? 11 : 0)) / 13;
            uses[f] = 1 + most + (f == 0 ? 1 : 0);
            House.due("load", x.load(f, head + House.times(most, "+f") + "; }") > 0 ? 1 : 0, 1);
        }
        int all = uses[0] + uses[1] + uses[2] + uses[3];
        House.due("uses", x.h.uses(22), all);
        House.due("rename", x.told(x.ask(0, 22, 0, "abcdefghijkl")), "0");
        House.due("EDITS", x.h.edits(), all);
        for (int i = 0; i < all; i++) {
            House.due("EDIT " + i, x.edit(i).replaceFirst("^[0-9]+", ""), "-1:abcdefghijkl");
        }
        House.due("apply", x.h.apply(), 1);
        for (int f = 0; f < 4; f++) {
            House.due("full FILE " + f, x.h.size(f) > 2980 ? 1 : 0, 1);
            House.due("NAMES in FILE " + f, x.text(f).split("abcdefghijkl", -1).length - 1, uses[f]);
        }
        House.due("judge", x.h.judge(), 0);
        House.due("uses", x.h.uses(22), all);
        House.due("undo", x.h.undo(), 0);
        House.due("uses", x.h.uses(22), all);
    }

    // Promises 26 to 28.

    private static int rename(House x, String to) {
        House.due("ask " + to, x.told(x.ask(0, 6, 0, to)), "0");
        return x.h.apply();
    }

    private static void history() {
        // At most 12 steps are kept, however many there were.
        for (int n : new int[] {0, 1, 11, 12, 13, 24, 25, 26, 27, 40}) {
            House x = House.of("class Z { }");
            for (int i = 0; i < n; i++) {
                House.due("apply", rename(x, "C" + i), Math.min(i + 1, 12));
            }
            int kept = Math.min(n, 12);
            for (int round = 0; round < 2; round++) {
                for (int i = 1; i <= kept; i++) {
                    House.due("undo", x.h.undo(), kept - i);
                    House.due("text", x.text(0), i == n ? "class Z { }" : "class C" + (n - i - 1) + " { }");
                }
                House.due("no more", x.h.undo(), -2);
                House.due("text", x.text(0), kept == n ? "class Z { }" : "class C" + (n - 13) + " { }");
                for (int i = 1; i <= kept; i++) {
                    House.due("redo", x.h.redo(), i);
                    House.due("text", x.text(0), "class C" + (n - kept + i - 1) + " { }");
                }
                House.due("no more", x.h.redo(), -2);
            }
        }
        // Behind some that were undone an apply() ends these.
        House x = House.of("class Z { }");
        for (int i = 0; i < 20; i++) {
            rename(x, "C" + i);
        }
        for (int i = 0; i < 5; i++) {
            x.h.undo();
        }
        House.due("apply", rename(x, "D"), 8);
        House.due("no redo", x.h.redo(), -2);
        for (int i = 0; i < 6; i++) {
            House.due("apply", rename(x, "E" + i), Math.min(9 + i, 12));
        }
        for (int i = 0; i < 12; i++) {
            House.due("undo", x.h.undo(), 11 - i);
        }
        House.due("text", x.text(0), "class C9 { }");
        House.due("no more", x.h.undo(), -2);
        // All FILES go back and forth; what was asked in between is no more.
        House y = House.of("class A { int f; }");
        y.load(3, "class B extends A { int g = f; }");
        y.ask(0, 14, 0, "longer");
        y.h.apply();
        y.ask(6, 30024, 0, "");
        y.h.apply();
        House.due("FILE 0", y.text(0), "class A { int longer; int g = longer; }");
        House.due("FILE 3", y.text(3), "class B extends A {  }");
        y.ask(0, 6, 0, "Q");
        House.due("undo", y.h.undo(), 1);
        House.due("not done", y.h.apply(), -2);
        House.due("redo is there still", y.h.redo(), 2);
        House.due("undo", y.h.undo(), 1);
        House.due("undo", y.h.undo(), 0);
        House.due("FILE 0", y.text(0), "class A { int f; }");
        House.due("FILE 3", y.text(3), "class B extends A { int g = f; }");
        House.due("judge", y.h.judge(), 0);
        House.due("uses", y.h.uses(14), 2);
        // One that is not SOUND, or is asked alone, ends nothing.
        y.ask(0, 14, 0, "g");
        y.ask(0, 14, 0, "");
        House.due("redo", y.h.redo(), 1);
        House.due("a load that is FULL", y.load(1, House.times(3001, " ")), -3);
        House.due("redo", y.h.redo(), 2);
        House.due("a load that is BAD", y.h.load(-1), -1);
        House.due("undo", y.h.undo(), 1);
        House.due("a load", y.load(1, " "), 0);
        House.due("no undo", y.h.undo(), -2);
        House.due("no redo", y.h.redo(), -2);
    }
}
