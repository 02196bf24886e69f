/** RECIPES and ALIKE pieces: promises 29 to 33. */
public final class RecipesTest {
    public static void main(String[] args) {
        faults();
        finds();
        types();
        twice();
        puts();
        breaks();
        states();
        alike();
        House.end("RecipesTest");
    }

    private static final String PROGRAM = "class A { int f; A a; } class B extends A { }";

    /** The FAULT of a RECIPE at its mark. */
    private static void fault(String marked, int fault) {
        House x = House.of(PROGRAM);
        House.due("recipe " + marked, x.told(x.recipe(House.bare(marked))), (-10 - fault) + "@" + House.marks(marked)[0]);
        House.due("THE TAPE is empty", x.h.cut(0), 0);
        House.due("none found", x.h.found(0, 0), -1);
        House.due("no put", x.h.put(), -2);
    }

    private static void faults() {
        fault("$x @# -> 1", 1);
        fault("@$X -> 1", 1);
        fault("@$ x -> 1", 1);
        fault("@$1 -> 1", 1);
        fault("@$", 1);
        fault("@abcdefghijklm -> 1", 1);
        fault("@1234567890 -> 1", 1);
        fault("@", 2);
        fault("1@", 2);
        fault("1 ->@", 2);
        fault("1 > 2@", 2);
        fault("1 - @> 2", 2);
        fault("1 -> 2 @-> 3", 2);
        fault("1 -> 2@;", 2);
        fault("@-> 1", 2);
        fault("$x @$y -> 1", 2);
        fault("$x@y -> 1", 2);
        fault("$x@(1) -> 1", 2);
        fault("a.@$x -> 1", 2);
        fault("1 @: int -> 1", 2);
        fault("$x : @1 -> 1", 2);
        fault("$x : @void -> 1", 2);
        fault("$x : int -> $x @: int", 2);
        fault("$x @= 1 -> 1", 2);
        fault("@int -> 1", 2);
        // The 101st token; 20 nests.
        fault(House.times(49, "1+") + "1 -> @1 + 1", 3);
        fault(House.times(48, "1+") + "$x:int -> @$x", 3);
        fault(House.times(48, "1+") + "$x:int -> @", 2);
        House x = House.of(PROGRAM);
        House.due("99 tokens", x.told(x.recipe(House.times(47, "1+") + "$x:int -> $x")), "0");
        House.due("100 tokens", x.told(x.recipe(House.times(48, "1+") + "$x -> -$x")), "0");
        fault(House.times(48, "1+") + "$x -> @+", 2);
        fault(House.times(21, "(") + "@1", 3);
        fault(House.times(21, "-") + "@", 3);
        fault("1 -> " + House.times(21, "f(") + "@1", 3);
        fault("1 -> " + House.times(21, "(") + "@)", 2);
        House.due("20 nests", x.told(x.recipe(House.times(20, "(") + "$x" + House.times(20, ")") + " -> " + House.times(20, "-") + "1")), "0");
        // 4 and 5: the first by its place.
        fault("$x -> $x + @$y", 4);
        fault("1 -> @$a", 4);
        fault("$b -> $b + @$z", 4);
        fault("$x + @$x:int -> $x", 4);
        fault("$x:int + @$x:int -> $x", 4);
        fault("$x:@C -> $y", 5);
        fault("$x + @$x:C -> 1", 4);
        fault("$x:bool && @$x:C -> $y", 4);
        fault("f($y, $x : @M) -> $z", 5);
        fault("1 -> $y +@", 2);
        House.due("a class", x.told(x.recipe("$x : B -> $x")), "0");
        // The place of a FAULT is that of the byte, with all blanks and remarks.
        fault("// one\n $x // two\n -> @$y", 4);
    }

    /** The RECIPE finds what stands from each @ to the ~ behind it (both at tokens). */
    private static House finds(String recipe, String marked) {
        return finds(recipe, "", marked);
    }

    /** What it finds in the text ahead counts for nothing. */
    private static House finds(String recipe, String ahead, String marked) {
        StringBuilder text = new StringBuilder();
        StringBuilder want = new StringBuilder();
        for (int i = 0; i < marked.length(); i++) {
            char c = marked.charAt(i);
            if (c == '@') {
                want.append(' ').append(text.length());
            } else if (c == '~') {
                want.append('-').append(text.length());
            } else {
                text.append(c);
            }
        }
        House x = House.of(ahead + text + (ahead.isEmpty() ? "" : " } }"));
        House.due("judge of " + marked, x.told(x.h.judge()), "0");
        int n = x.recipe(recipe);
        int from = ahead.length();
        StringBuilder got = new StringBuilder();
        for (int i = 0; i < n; i++) {
            if (x.h.found(i, 0) >= from) {
                got.append(' ').append(x.h.found(i, 0) - from).append('-').append(x.h.found(i, 1) - from);
            }
        }
        House.due(recipe + " of " + marked, got.toString(), want.toString());
        House.due("behind the last", x.h.found(Math.max(0, n), 0), -1);
        House.due("found what", x.h.found(0, 2), -1);
        House.due("found what", x.h.found(0, -1), -1);
        House.due("found -1", x.h.found(-1, 0), -1);
        House.due("place", x.h.place(), -2);
        return x;
    }

    private static final String AHEAD = "class B { int f; static int s; B b; B me(int n) { return null; } void v(int n) { } "
        + "int g(int a, int b) { return 99; } int o() { return 99; } } class A extends B { bool q; void m(int x, int y, A a) { ";

    private static void in(String recipe, String marked) {
        finds(recipe, AHEAD, marked);
    }

    private static void finds() {
        in("1 -> 2", "print @~1 + @~1 * 01 - 11; print -@~1;");
        in("x -> y", "print @~x + y; x = @~x; a.v(@~x); if (@~x == 1) { }");
        in("$x + 1 -> $x", "print @x + ~1; print @x + y + 1 + ~1; print 1 + x;");
        in("1 + $x -> $x", "print @1 + ~x + y; print x + 1 + y; print x + @(1 + y~); print @1 + x * ~y;");
        in("$x - $y -> $y", "print @x - y - ~1; print @x - (y - 1~); print x + @(y - 1~);");
        in("-$x -> $x", "print @- - ~x; print 1 - @-~x; print @-(x~);");
        in("!$x -> $x", "print @!!~q; q = @!~q || @!(q~);");
        in("this -> a", "a = null; b = @~this; print @~this.f;");
        in("null -> a", "a = @~null; print a == @~null;");
        in("true -> false", "q = @~true; q = false;");
        in("read -> 1", "x = @~read + @~read;");
        in("new A() -> a", "a = @new A(~); b = new B(); @new A(~).f = 1;");
        in("$x.f -> $x.f", "print @a.~f + @a.b.b.~f; print f + B.s; a.f = 1; a.b.f = @a.~f;");
        in("a.f -> 1", "print @a.~f + b.f; a.f = @a.~f; print @(a).~f;");
        in("$x.b -> $x", "a.b = null; @a.~b.b = null; print @a.b.~b.f;");
        in("B.s -> 1", "print @B.~s + A.s + s; B.s = @B.~s;");
        in("$x.s -> 1", "print B.s + A.s;");
        in("B -> A", "print B.s;");
        in("f -> 1", "print @~f + a.f + this.f; f = 1;");
        in("g($x, $y) -> $x", "print @g(1, x + y~) + @g(g(1, 2), 3~) + a.g(1, 2);");
        in("$e.g($x, $y) -> $x", "print g(1, 2) + @a.g(1, 2~) + @a.b.g(1, 2~);");
        in("$e.me($x) -> $e", "b = @a.me(1).me(2~); @a.me(1~).v(3);");
        in("o() -> 1", "print @o(~) + a.o(); o();");
        in("o($x) -> 1", "print o() + a.o();");
        in("g($x) -> 1", "print g(1, 2);");
        in("v($x) -> 1", "v(1); a.v(1);");
        in("g($x, $y) -> $x", "g(1, @g(2, 3~)); v(@g(4, 5~));");
        // $ stands for any exp that is not void; all of a S and all in front of = is passed over.
        in("$x -> 1", "v(@~1); @a.~b.f = @2 * ~3; x = @~y; if (@x == ~y) print @(x~); o(); return;");
        in("$x + $y -> 1", "print @x + y * ~2; print @(x + y~) * 2; print x * y;");
        in("$x * $y -> 1", "print x + @y * ~2; print @(x + y) * ~2;");
        in("$x == $y -> true", "print @a == ~null; print @x + 1 == y == (x == y~);");
        // ( ) count for nothing in both.
        in("((x)) + (1) -> x", "print @x + ~1; print @(x) + ((1)~); print @((x + 1)~) * 2;");
        in("(1 + 2) * 3 -> 0", "print @(1 + 2) * ~3; print 1 + 2 * 3; print @((1) + 2) * (3~);");
        in("x + 1 -> 0", "print @(x + 1~); g(@((x + 1)~), 2);");
        in("f($x) -> 1", "print (f);");
        // In fields, and by the first token, of one the longest.
        finds("$x + $y -> 1", "class A { int f = @1 + 2 + ~3; static int s = -@(1 + 2~) * 3; int g = @(1 + 2~); }");
    }

    private static void types() {
        in("$x:int -> 1", "print @x + ~1; print q; q = @~x == @~y; a = null; a.f = @~f;");
        in("$x:bool -> true", "print @~q; print x; q = @x < ~y; if (@x == ~y) { } while (@!~q) { }");
        in("$x:B -> null", "b = @~a; b = @~null; b = @a.~b; b = @new A(~); print @~this == @a.~b; print x; @a.~b.f = 1; q = 1 == 2;");
        in("$x:A -> null", "b = @~a; b = @~null; b = @~a.b.b; b = @new A(~); b = new B();");
        in("$x:int == $y -> true", "print @x == ~y; print q == q; print a == null;");
        in("$x == $y:A -> true", "print @b == ~a; print @a == ~null; print a == b; print x == y;");
    }

    private static void twice() {
        in("$x + $x -> 2 * $x", "print @x + ~x; print x + y; print @x * y + x * ~y; print x * y + (x) * y;");
        in("$x + $x -> 2 * $x", "print @(x) + ~x; print @x + ((x)~); print @(x * y) + x * ~y; print (1 + x) + x + 1;");
        in("$x + $x -> 2 * $x", "print @1 + x + (1 + x~); print 01 + 1; print @a.f + a . // f\n ~f;");
        in("g($x, $x) + $y * $x -> $y", "print @g(x, (x)) + 7 * ~x; print g(x, y) + 7 * x; print g(x, x) + 7 * y;");
        in("$x:int == $x -> true", "print @x == ~x; print a == a; print q == q;");
        in("$a + $a -> 2 * $a", "print @x + ~x; print x + y; print @y + ~y;");
        in("$z + $z -> 2 * $z", "print @x + ~x; print x + y; print @y + ~y;");
    }

    /** What PUT makes of a program. */
    private static void puts(String recipe, String text, String want) {
        House x = House.of(text);
        House.due("judge of " + text, x.told(x.h.judge()), "0");
        int n = x.recipe(recipe);
        House.due("put of " + text, x.told(x.h.put()), "0");
        House.due("edits", x.h.edits(), n);
        House.due("apply", x.h.apply(), 1);
        House.due(recipe + " put in " + text, x.text(0), want);
        House.due("judge", x.told(x.h.judge()), "0");
    }

    private static void putsIn(String recipe, String text, String want) {
        String ahead = "class A { int f; A a; int g(int a, int b) { return 0; } bool q; void m(int x, int y) { ";
        puts(recipe, ahead + text + " } }", ahead + want + " } }");
    }

    private static void puts() {
        putsIn("1 -> 2", "print 1 + 1;", "print 2 + 2;");
        putsIn("$x + $x -> 2 * $x", "print x + x; print x * y + x * y; print (x) + ((x));",
            "print (2 * x); print (2 * (x * y)); print (2 * ((x)));");
        putsIn("$x + 9 -> $x", "print x + 9; print x * y + 9; print (x * y) + 9;", "print x; print (x * y); print ((x * y));");
        putsIn("g($x, $y) -> this.g($y,-$x)", "print g(x, y + 1) * 2;", "print (this . g ( (y + 1) , - x )) * 2;");
        putsIn("$x == true -> $x", "print q == true;print(q)==true;", "print q;print((q));");
        putsIn("(x) -> y", "x = 3;print(x)+x;print x;", "x = 3;print y+y;print y;");
        putsIn("1 + $x -> $x", "print 1 + (2 // two\n + x);", "print ((2 // two\n + x));");
        putsIn("7 -> (8)", "print 7;", "print (( 8 ));");
        putsIn("$x && $y -> !(!$x || !$y)", "print q && x == y && q;", "print (! ( ! (q && x == y) || ! q ));");
        putsIn("$x : int * 2 -> $x+$x // twice", "print x * 2 * 2;", "print ((x * 2) + (x * 2));");
        putsIn("g($x, g($y, $z)) -> g(g($x, $y), $z)", "print g(1, g(2, g(3, 4)));", "print (g ( g ( 1 , 2 ) , (g(3, 4)) ));");
        putsIn("g($x, g($y, $x)) -> $x", "print g(((x)), g(2, x));", "print (((x)));");
        puts("new A() -> null", "class A { A a = new A(); static A b = new A(); }", "class A { A a = null; static A b = null; }");
        // ( ) that stand around what a $ stands for come along, and ( ) around that.
        putsIn("g($x, $y) -> $x", "print g((x), 1);", "print ((x));");
        putsIn("g(($x), $y) -> $x", "print g(((x)), 1);", "print (((x)));");
    }

    private static void breaks(String recipe, String marked, int condition) {
        House x = House.of(House.bare(marked));
        x.recipe(recipe);
        House.due(recipe + " put in " + marked, x.told(x.h.put()), condition + "@" + House.marks(marked)[0]);
        House.due("no EDITS", x.h.edits(), 0);
        House.due("not done", x.h.apply(), -2);
    }

    private static void breaks() {
        House x = House.of(PROGRAM);
        House.due("finds none", x.recipe("1 -> 2"), 0);
        House.due("put", x.told(x.h.put()), "1");
        breaks("1 -> true", "class A { int f = @1; }", 20);
        breaks("$x + 1 -> nothing($x)", "class A { int f = 2@ + 1; }", 20);
        // What a COPY means elsewhere.
        House y = House.of("class A { A a; static A b; B m() { return null; } } class B extends A { A n() { return a; } }");
        House.due("recipe", y.recipe("a -> b"), 1);
        House.due("a NAME that came has no OLD one", y.told(y.h.put()), "0");
        // The COPY means another method behind it, as its argument has another type.
        breaks("null -> this", "class A { int m(A a) { return 1; } int m(B b) { return 2; } int n() { return @m(null); } } class B extends A { }", 21);
        House.due("FILE of more than 3000 bytes", tooLong(), "20@0");
    }

    private static String tooLong() {
        House x = House.of("class A { int f = 1" + House.times(250, "+1") + "; } // " + House.times(600, "x"));
        x.recipe("1 -> 123456789");
        return x.told(x.h.put());
    }

    private static void states() {
        House x = House.of("class A { int f = 1; int g = 1; }");
        House.due("no recipe", x.h.put(), -2);
        House.due("recipe", x.recipe("1 -> 2"), 2);
        House.due("found", x.h.found(1, 0), 29);
        x.ask(0, 14, 0, "h");
        House.due("found stays", x.h.found(1, 0), 29);
        House.due("the change stays", x.h.edits(), 1);
        House.due("recipe", x.recipe("1 -> 3"), 2);
        House.due("the change stays", x.h.edits(), 1);
        House.due("a FAULT", x.recipe("1"), -12);
        House.due("nothing found", x.h.found(0, 0), -1);
        House.due("no put", x.h.put(), -2);
        House.due("the change stays", x.h.edits(), 1);
        House.due("recipe", x.recipe("1 -> 3"), 2);
        House.due("put", x.h.put(), 0);
        House.due("edits", x.h.edits(), 2);
        House.due("edit 1", x.edit(1), "29-1:3");
        House.due("recipe", x.recipe("4 -> 5"), 0);
        House.due("edits stay", x.h.edits(), 2);
        House.due("none to put", x.h.put(), 1);
        House.due("edits", x.h.edits(), 0);
        House.due("recipe", x.recipe("1 -> 3"), 2);
        x.h.put();
        House.due("apply", x.h.apply(), 1);
        House.due("text", x.text(0), "class A { int f = 3; int g = 3; }");
        House.due("nothing found any more", x.h.found(0, 0), -1);
        House.due("no put any more", x.h.put(), -2);
        House.due("recipe", x.recipe("3 -> 1"), 2);
        House.due("undo", x.h.undo(), 0);
        House.due("nothing found any more", x.h.found(0, 0), -1);
        House.due("no put any more", x.h.put(), -2);
        House.due("recipe", x.recipe("1 -> 3"), 2);
        House.due("redo NO?", x.h.redo(), 1);
        House.due("nothing found any more", x.h.found(0, 0), -1);
        House.due("recipe", x.recipe("3 -> 1"), 2);
        House.due("a load with a FAULT", x.load(0, "?"), -11);
        House.due("found stays", x.h.found(0, 0), 18);
        x.load(1, "class B { int x = true; }");
        House.due("nothing found any more", x.h.found(0, 0), -1);
        x.tape("1 -> 2");
        House.due("ERRORS", x.h.recipe(), -2);
        House.due("THE TAPE stays", x.h.cut(6), 0);
        House.due("put", x.h.put(), -2);
    }

    /** ALIKE runs of n tokens: from and to of each pair. */
    private static House alike(int n, String text, String want) {
        House x = House.of(text);
        House.due("judge of " + text, x.told(x.h.judge()), "0");
        int count = x.h.alike(n);
        StringBuilder s = new StringBuilder();
        for (int i = 0; i < count; i++) {
            s.append(i == 0 ? "" : " ").append(x.h.pair(i, 0)).append('=').append(x.h.pair(i, 1));
        }
        House.due("alike " + n + " of " + text, s.toString(), want);
        House.due("behind the last", x.h.pair(count, 0), -1);
        House.due("pair -1", x.h.pair(-1, 0), -1);
        House.due("pair which", x.h.pair(0, 2), -1);
        House.due("pair which", x.h.pair(0, -1), -1);
        return x;
    }

    private static String pairs(String marked, int... of) {
        int[] at = House.marks(marked);
        StringBuilder s = new StringBuilder();
        for (int i = 0; i < of.length; i += 2) {
            s.append(i == 0 ? "" : " ").append(at[of[i]]).append('=').append(at[of[i + 1]]);
        }
        return s.toString();
    }

    private static void alikeAt(int n, String marked, int... of) {
        String text = "class A { int f; int g; void v(int a, int b) { " + marked + " } }";
        alike(n, House.bare(text), pairs(text, of));
    }

    private static void alike() {
        House x = House.of(PROGRAM);
        House.due("n", x.h.alike(4), -1);
        House.due("n", x.h.alike(101), -1);
        House.due("none", x.h.alike(5), 0);
        House.due("none", x.h.alike(100), 0);
        alikeAt(5, "@print a + b; @print f + g; print a * b; print a + 1;", 0, 1);
        alikeAt(5, "@print a + b; print a + a; @print b + a;", 0, 1);
        alikeAt(5, "@print a + a; print a + b; @print b + b;", 0, 1);
        alikeAt(5, "print 1 + a; @print 2 + a; @print 2 + b; print 02 + b;", 0, 1);
        alikeAt(5, "v(a, b); v(b, a);");
        alikeAt(7, "@v(a, b); @v(b, a);", 0, 1);
        alikeAt(7, "@v(a, b); @v(f, g);", 0, 1);
        alike(5, "class A { int m(int a) { print a + 1; return a + 1; } int n(int b) { return b + 1; } }", "38=69");
        // Three of them are three pairs, by the first run and then the second one.
        alikeAt(5, "@print a + b; { @print f + g; } if (a == b) { @print b + a; }", 0, 1, 0, 2, 1, 2);
        // S by S: several, in one block, that do not overlap.
        alikeAt(6, "@print a; @print b; @print a; @print b;", 0, 2);
        alikeAt(6, "@print a; print b; { @print f; @print a; print b; }", 0, 1, 0, 2);
        alikeAt(8, "@a = 1; @b = 2; @b = 1; @a = 2;", 0, 2);
        alikeAt(8, "a = 1; b = 2; a = 1; a = 2;");
        alikeAt(8, "a = 1; a = 2; b = 1; a = 2;");
        // A S of an if is none of a block's, but all of the if is.
        alikeAt(5, "if (a == b) print a + b; if (a == b) print a - b;");
        alikeAt(11, "@if (a == b) print a + b; @if (f == g) print f + g;", 0, 1);
        alikeAt(7, "@{ print a + b; } @{ print g + f; }", 0, 1);
        alikeAt(5, "{ @print a + b; } { @print g + f; }", 0, 1);
        // In other methods, classes and FILES; types are NAMES or WORDS.
        alike(5, "class A { void m() { A a = null; int b = 1; } void n() { B b = null; bool c = true; } } class B { void o() { "
            + "int x = 1; } }", "21=57 33=109");
        House y = House.of("class A { void m() { print 1 + 2; } }");
        y.load(3, "class B { void m() { print 1 + 2; } }");
        House.due("in two FILES", y.h.alike(5), 1);
        House.due("first", y.h.pair(0, 0), 21);
        House.due("second", y.h.pair(0, 1), 30021);
        House.due("BAD changes nothing", y.h.alike(0), -1);
        House.due("first", y.h.pair(0, 0), 21);
        House.due("ask", y.ask(0, 6, 0, "C"), 0);
        House.due("first", y.h.pair(0, 0), 21);
        House.due("apply", y.h.apply(), 1);
        House.due("none any more", y.h.pair(0, 0), -1);
        House.due("again", y.h.alike(5), 1);
        House.due("a FAULT", y.load(0, "?"), -11);
        House.due("first", y.h.pair(0, 0), 21);
        House.due("none", y.h.alike(6), 0);
        House.due("none any more", y.h.pair(0, 0), -1);
        y.h.alike(5);
        y.h.undo();
        House.due("none any more", y.h.pair(0, 0), -1);
        y.load(1, "class Q { int f = true; }");
        House.due("n ahead of ERRORS", y.h.alike(4), -1);
        House.due("ERRORS", y.h.alike(5), -2);
        // 1000 at most.
        House z = House.of("class A { void m() { " + House.times(45, "print 1 + 1; ") + "} }");
        House.due("990", z.h.alike(5), 990);
        z.load(0, "class A { void m() { " + House.times(46, "print 1 + 1; ") + "} }");
        House.due("1000", z.h.alike(5), 1000);
        House.due("the last", z.h.pair(999, 0), 21 + 13 * 37);
        House.due("the last", z.h.pair(999, 1), 21 + 13 * 38);
        House.due("none behind it", z.h.pair(1000, 0), -1);
    }
}
