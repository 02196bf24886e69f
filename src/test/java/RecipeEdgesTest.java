/** Edges of RECIPES and of ALIKE pieces, promise by promise: 29 to 33. */
public final class RecipeEdgesTest {
    private static final int LEAST = Integer.MIN_VALUE;
    private static final int MOST = Integer.MAX_VALUE;

    public static void main(String[] args) {
        refused();
        faults();
        tooMany();
        fourAndFive();
        matches();
        dollars();
        typed();
        sameTwice();
        longest();
        passedOver();
        foundEdges();
        puts();
        putConditions();
        alikeNumbers();
        alikeRuns();
        alikeNames();
        alikePlaces();
        pairs();
        House.end("RecipeEdgesTest");
    }

    private static final String PROGRAM = "class A { int f; A a; } class B extends A { }";

    // Promise 29: what is refused.

    private static void refused() {
        House x = House.of("class A { int f = true; }");
        x.tape("1 -> 2");
        House.due("ERRORS", x.h.recipe(), -2);
        House.due("ERRORS", x.h.put(), -2);
        House.due("THE TAPE stays", x.h.cut(0), 6);
        for (int n : new int[] {4, 101, 0, -1, LEAST, MOST}) {
            House.due("n ahead of ERRORS", x.h.alike(n), -1);
        }
        House.due("ERRORS", x.h.alike(5), -2);
        House.due("ERRORS", x.h.alike(100), -2);
        x.h.cut(6);
        x.load(0, "class A { int f = 1; }");
        House.due("no recipe() since", x.h.put(), -2);
        House.due("nothing", x.told(x.recipe("")), "-12@0");
        House.due("a remark alone", x.told(x.recipe("// 1 -> 2")), "-12@9");
        House.due("THE TAPE is empty", x.h.cut(0), 0);
        House.due("none without a FAULT", x.h.put(), -2);
        House.due("found", x.recipe("1 -> 2"), 1);
        House.due("THE TAPE is empty", x.h.cut(0), 0);
        House.due("then a FAULT", x.recipe("1 -> "), -12);
        House.due("nothing is found", x.h.found(0, 0), -1);
        House.due("none to put", x.h.put(), -2);
        House.due("found again", x.recipe("1 -> 2"), 1);
        House.due("put", x.h.put(), 0);
        House.due("and once more", x.h.put(), 0);
    }

    private static void fault(String marked, int fault) {
        House x = House.of(PROGRAM);
        House.due("recipe " + marked, x.told(x.recipe(House.bare(marked))), (-10 - fault) + "@" + House.marks(marked)[0]);
        House.due("nothing is found", x.h.found(0, 0), -1);
        House.due("none to put", x.h.put(), -2);
    }

    private static void fine(String recipe) {
        House x = House.of(PROGRAM);
        House.due("recipe " + recipe, x.told(x.recipe(recipe)), "0");
    }

    private static void faults() {
        // 1: a $ without a small letter, at once behind it, is no token.
        for (String s : new String[] {"@$", "@$ a", "@$A", "@$1", "@$$a", "@$\n", "@#", "@&", "@|", "@\u00e9", "@abcdefghijklm", "@1234567890", "@?"}) {
            fault(s + " -> 1", 1);
            fault("1 + " + s + " -> 1", 1);
            fault("1 -> " + s, 1);
            fault("1 -> 2 + " + s, 1);
        }
        fault("1 @& 2 -> 1", 1);
        fault("1 -> 2 @$", 1);
        // 2: two parts with one -> between, in which there are exps alone.
        for (String s : new String[] {"@", "@->", "@-> 1", "1@", "1 ->@", "1 -> 2 @-> 3", "1 - @> 2", "1 -> 2@;", "1@; -> 2", "1 @= 2 -> 3",
            "@int -> 1", "@class -> 1", "@{ -> 1", "1 -> @else", "1 @2 -> 3", "1 -> 2 @3", "1 -@-> 2", "1 @: int -> 2", "a @: int -> 2", "$x @x -> 1", "$x@(1) -> 1",
            "$x @$y -> 1", "a.@$x -> 1", "new @$x() -> 1", "(1 @-> 2)", "1 -> (2@", "1 -> 2@)", "f(1 @-> 2", "f(1, @) -> 1",
            "$x : @1 -> 1", "$x : @void -> 1", "$x : @: int -> 1", "$x : @-> 1", "$x : int @int -> 1", "$x -> $x @: int", "1 -> 1 @: int",
            "$x : @null -> 1", "$x : int.@$y -> 1"}) {
            fault(s, 2);
        }
        fine("$x : A . f -> $x . f");
        fine("$x:int->$x");
        fine("$x-$y->$x- -$y");
        fine("$a . f ( $b : bool , - $c ) . g -> $a . h ( $b ) + $c");
        fine("// one\n1 // two\n -> // three\r\n\t2 // four");
        fine("f() -> g()");
        fine("new Zzz() -> nothing.at(all)");
        fault("1 -> 2 /@", 2);
        fine("1 -> 2 /// 3");
    }

    private static void tooMany() {
        // 100 tokens are fine: $ and its letter are one, : and -> too.
        fine(House.times(48, "$a+") + "$a -> - 1");
        fine(House.times(47, "$a+") + "$b:int -> 1");
        fault(House.times(49, "1+") + "1 -> @1", 3);
        fault(House.times(49, "1+") + "1 -> @$", 1);
        fault(House.times(50, "1+") + "@1 -> 1", 3);
        fault(House.times(48, "1+") + "1 -> 1 + @1", 3);
        fault(House.times(48, "1+") + "1 -> 1 + @)", 2);
        fault(House.times(48, "1+") + "1 -> 1 + @#", 1);
        fault(House.times(48, "1+") + "1 -> -@", 2);
        fault(House.times(49, "$a+") + "$b -> @$a", 3);
        fault(House.times(48, "$a+") + "$b:int -> @$a", 3);
        // Within 20 others is fine, in both exps.
        for (String[] n : new String[][] {{"(", ")"}, {"-", ""}, {"!", ""}, {"f(", ")"}}) {
            fine(House.times(20, n[0]) + "1" + House.times(20, n[1]) + " -> 1");
            fine("1 -> " + House.times(20, n[0]) + "1" + House.times(20, n[1]));
            fault(House.times(21, n[0]) + "@1" + House.times(21, n[1]) + " -> 1", 3);
            fault("1 -> " + House.times(21, n[0]) + "@1" + House.times(21, n[1]), 3);
            fault("1 -> " + House.times(21, n[0]) + "@", 3);
            fault("1 -> " + House.times(21, n[0]) + "@*", 3);
            fault("1 -> " + House.times(21, n[0]) + "@#", 1);
        }
        fault(House.times(21, "(") + "@) -> 1", 2);
        fine(House.times(20, "(") + "f()" + House.times(20, ")") + " -> 1");
        // What stands in the first exp counts no more in the second one.
        fine(House.times(20, "-") + "1 -> " + House.times(20, "-") + "1");
    }

    private static void fourAndFive() {
        // 4: of the second exp, a $ that is not in the first one; a type behind a $ that came before.
        fault("1 -> @$a", 4);
        fault("$a -> $a + @$b + $c", 4);
        fault("$a + $b -> $a * @$z", 4);
        fault("$a + @$a : int -> $a", 4);
        fault("$a : int + @$a : int -> $a", 4);
        fault("$a + $b + @$a : Nothing -> $c", 4);
        fault("$a:int + $a -> $a + @$b", 4);
        // 5: no class.
        fault("$a : @Nothing -> $a", 5);
        fault("$a : @a -> $a", 5);
        fault("$a : @f -> $a", 5);
        // The first of both by its place.
        fault("$a : @Nothing + $a : int -> $b", 5);
        fault("$a + @$a : int + $b : Nothing -> $c", 4);
        fault("$a : int + $b : @Nothing -> $c", 5);
        fault("$a : int + $b : @Nothing + $b : int -> 1", 5);
        // 1 to 3 ahead of these, wherever they are.
        fault("$a : Nothing -> $b @#", 1);
        fault("$a : Nothing -> $b +@", 2);
        fault("$b : Nothing + " + House.times(48, "1+") + "@1 -> 1", 3);
        for (char c = 'a'; c <= 'z'; c++) {
            fine("$" + c + " * 2 -> $" + c);
            if (c != 'q') {
                fault("$q + 1 -> @$" + c, 4);
                fault("$" + c + " + 1 -> @$q", 4);
            }
        }
        fine("$a:A -> $a");
        fine("$a:B -> $a");
    }

    // What is found.

    private static final String AHEAD = "class P { int n; P p; static int s; int i(int a) { return a; } int j(int a, int b) { return b; } int o() { return 99; } "
        + "void v() { } static int t(int a) { return a; } } class Q extends P { } class R { } class A extends P { bool b; R r; void go(int x, bool y, Q q) { ";

    /** The RECIPE finds what stands from each @ to the ~ behind it. */
    private static House finds(String recipe, String marked) {
        StringBuilder text = new StringBuilder();
        StringBuilder want = new StringBuilder();
        for (char c : marked.toCharArray()) {
            if (c == '@') {
                want.append(' ').append(text.length());
            } else if (c == '~') {
                want.append('-').append(text.length());
            } else {
                text.append(c);
            }
        }
        House x = House.of(AHEAD + text + " } }");
        House.due("judge of " + marked, x.told(x.h.judge()), "0");
        int n = x.recipe(recipe);
        StringBuilder got = new StringBuilder();
        for (int i = 0; i < n; i++) {
            if (x.h.found(i, 0) >= AHEAD.length()) {
                got.append(' ').append(x.h.found(i, 0) - AHEAD.length()).append('-').append(x.h.found(i, 1) - AHEAD.length());
            }
        }
        House.due(recipe + " of " + marked, got.toString(), want.toString());
        return x;
    }

    private static void matches() {
        // NUMBERS, WORDS, NAMES and operators by their bytes.
        finds("1 -> 2", "x = @~1; x = 01; x = 11; x = 10; x = -@~1;");
        finds("0 -> 2", "x = @~0; x = 00;");
        finds("true -> false", "y = @~true; y = false;");
        finds("null -> this", "q = @~null; r = @~null; y = @~null == @~null;");
        finds("this -> null", "y = @~this == q.p; q.p = @~this;");
        finds("read -> 1", "x = @~read;");
        finds("x -> 1", "x = @~x + X; } int X; void x() { x();");
        finds("n -> 1", "x = @~n + q.n + this.n; n = @~n;");
        finds("q.n -> 1", "x = @q.~n + n + q.p.n; q.n = @q.~n;");
        finds("q.p.n -> 1", "x = @q.p.~n + q.n; x = q.p.p.n;");
        finds("P.s -> 1", "x = @P.~s + Q.s + s;");
        finds("s -> 1", "x = P.s + @~s;");
        finds("P.t(1) -> 1", "x = @P.t(1~) + t(1) + Q.t(1) + P.t(2);");
        finds("o() -> 1", "x = @o(~) + q.o() + this.o();");
        finds("q.o() -> 1", "x = o() + @q.o(~) + q.p.o();");
        finds("i(1) -> 1", "x = @i(1~) + i(2) + q.i(1) + j(1, 1);");
        finds("j(1, 2) -> 1", "x = @j(1, 2~) + j(2, 1) + j(1, 1) + j(2, 2);");
        finds("i(1, 2) -> 1", "x = i(1) + j(1, 2);");
        finds("i() -> 1", "x = i(1) + o();");
        finds("new Q() -> null", "q = @new Q(~); r = new R(); P p0 = new P();");
        // A NAME is no call, a call no NAME, a new neither.
        finds("o -> 1", "x = o();");
        finds("Q -> 1", "q = new Q(); x = Q.s;");
        finds("Q() -> 1", "q = new Q();");
        finds("new o() -> 1", "x = o();");
        finds("n() -> 1", "x = n;");
        finds("q.o -> 1", "x = q.o();");
        finds("q.n() -> 1", "x = q.n;");
        // Operators, of one and of two operands.
        String[] ops = {"+", "-", "*", "/", "%"};
        for (String op : ops) {
            StringBuilder s = new StringBuilder();
            for (String other : ops) {
                s.append(other.equals(op) ? "x = @1 " + other + " ~2; " : "x = 1 " + other + " 2; ");
            }
            finds("1 " + op + " 2 -> 3", s.toString());
        }
        String[] orders = {"<", "<=", ">", ">=", "==", "!="};
        for (String op : orders) {
            StringBuilder s = new StringBuilder();
            for (String other : orders) {
                s.append(other.equals(op) ? "y = @1 " + other + " ~2; " : "y = 1 " + other + " 2; ");
            }
            finds("1 " + op + " 2 -> true", s.toString());
        }
        finds("y && y -> y", "y = @y && ~y; y = y || y;");
        finds("y || y -> y", "y = @y || ~y; y = y && y;");
        finds("-x -> x", "x = @-~x; x = 1 - x; x = @-(x~); x = -1;");
        finds("!y -> y", "y = @!~y; y = !b; y = y != b;");
        finds("1 - 2 -> 3", "x = 1 - -2; x = @1 - ~2 - 3; x = 3 - 1 - 2;");
        finds("1 + 2 + 3 -> 6", "x = @1 + 2 + ~3; x = 1 + (2 + 3); x = @(1 + 2) + ~3; x = 2 + 1 + 3;");
        finds("1 + (2 + 3) -> 6", "x = 1 + 2 + 3; x = @1 + (2 + 3~);");
        finds("1 + 2 * 3 -> 7", "x = @1 + 2 * ~3; x = (1 + 2) * 3; x = @1 + (2 * 3~);");
        // ( ) count for nothing in both.
        finds("((1)) + (((2))) -> 3", "x = @1 + ~2; x = @(1) + ((2)~); x = @((1 + 2)~); x = -@((1 + 2)~);");
        finds("(1 + 2) -> 3", "x = @1 + ~2; x = @(1 + 2~) * 4; x = 4 + 1 + 2;");
        finds("i((1)) -> 3", "x = @i(1~) + @i((1)~) + @(i(1)~);");
        finds("(q).n -> 3", "x = @q.~n + @(q).~n + @(((q)).n~);");
        finds("q.n -> 3", "x = @(q).~n; x = @((q).n~);");
        finds("-(x) -> 3", "x = @-~x; x = @(-((x))~);");
        // A CLASS in front of . is no exp.
        finds("P -> q", "x = P.s;");
        finds("$x.s -> 1", "x = P.s;");
        finds("$x.t(1) -> 1", "x = P.t(1);");
        finds("P.s -> 1", "x = @P.~s; x = @(P.s~);");
    }

    private static void dollars() {
        // Any exp that is not void.
        finds("i($a) -> $a", "x = @i(1~) + @i(-x~) + @i((x)~) + @i(i(2)~) + @i(read~) + @i(q.n~) + @i(1 + 2~);");
        finds("$a -> 1", "x = @1 + ~2; y = @null == ~this;");
        finds("$a -> 1", "x = @~1; y = @!~y; q = @new Q(~); if (@~y) { } while (@~y) { } print @q.~n; int z = @(1~);");
        finds("$a.n -> 1", "x = @q.~n + @q.p.~n + n + @this.~n + @(q).~n + @new Q().~n; q.n = 1;");
        finds("$a.i($b) -> 1", "x = i(1) + @q.i(1~) + @this.i(2~) + P.t(1) + @q.p.i(q.i(1)~);");
        finds("$a + $b -> 1", "x = @1 + 2 + ~3; x = 1 - @(2 + 3~); x = -@(1 + 2~);");
        finds("-$a -> 1", "x = @--~1; x = 1 - 2; x = 1 - @-(1 - 2~);");
        // No void call, and none in ( ).
        finds("$a -> 1", "v(); @~q.v(); x = @~1;");
        finds("$a.v() -> 1", "q.v(); this.v();");
        // All in front of = and all of an S exp ; are not found, parts of them are.
        finds("$a -> 1", "x = @~1; @~q.n = @~2; i(@~3); @~q.i(@~4); @q.~p.n = @~5;");
        finds("x -> 1", "x = 1; x = @~x; i(@~x); q.n = @~x; x = @((x)~);");
        finds("i($a) -> 1", "i(1); i(@i(2~)); q.i(@i(3~)); x = @i(4~);");
        finds("q.p -> 1", "q.p = null; @q.~p.p = null; q.p = @q.~p;");
    }

    private static void typed() {
        finds("$a : int -> 1", "x = @1 + ~x; y = @~x == @~1 && y; q.n = @~read; P.s = @~s; r = null; y = b; y = @q.~n < @~1;");
        finds("$a : bool -> b", "x = 1; y = @~y; y = @x == ~1; y = @!~b; if (@~true) { } while (@1 < ~2) { } y = @q == ~null;");
        finds("$a : P -> null", "q = @~null; @~q.p = @~q; @~q.p = @new P(~); y = @~this == @q.~p; r = @~null; x = 1; y = b; @q.~p.n = 1;");
        finds("$a : Q -> null", "q = @~null; @~q.p = @~q; @~q.p = new P(); y = this == @~q.p; r = @~null; @~q.p = this; q = @new Q(~);");
        finds("$a : A -> null", "q.p = @~this; q = @~null; q.p = q; @~this.p = q;");
        finds("$a : R -> null", "r = @~r; r = @new R(~); q = @~null;");
        finds("$a : P == $b : R -> true", "y = q == q; y = @null == ~r; y = @q == ~null; y = r == null; y = @null == ~null;");
        finds("$a : int + $b -> 1", "x = @1 + ~x;");
        finds("j($a : int, $b : int) -> 1", "x = @j(1, x~);");
    }

    private static void sameTwice() {
        finds("$a + $a -> 1", "x = @1 + ~1; x = 1 + 2; x = 1 + 01; x = @x + ~x; x = x + n; x = @(x) + ~x; x = @((x)) + (x~);");
        finds("$a * $a -> 1", "x = @(x + n) * (x + n~); x = (x + n) * (n + x); x = (x + n) * (x - n); x = (x + 1) * (x + 2); x = (x + n) * ((x) + n);");
        finds("$a + $a -> 1", "x = @x * n + x * ~n; x = x * n + n * x; x = x * 1 + x * 2; x = @q.n + q.~n; x = q.n + n; x = q.p.n + q.n;");
        finds("$a + $a -> 1", "x = @i(1) + i(1~); x = i(1) + i(2); x = @-x + -~x; x = -x + x; x = @i(1 + 2) + i(1 // x\n +2~); x = i((1)) + i(1);");
        finds("$a == $a -> true", "y = @null == ~null; y = @this == ~this; y = @read == ~read; y = q == null;");
        finds("j($a, $a) + $a -> 1", "x = @j(x, x) + ~x; x = j(x, x) + n; x = j(x, n) + x; x = j(n, x) + x; x = @j((x), x) + ((x)~);");
        finds("$a + $b + $a -> 1", "x = @1 + 2 + ~1; x = @1 + 1 + ~1; x = 1 + 2 + 2; x = 2 + 1 + 1;");
        finds("$a : int == $a -> true", "y = @x == ~x; y = b == b; y = q == q;");
    }

    private static void longest() {
        finds("$a + 1 -> 2", "x = @1 + 1 + ~1; x = 1 + @(1 + 1~);");
        finds("$a.p -> q", "q.p = @q.p.~p; @q.p.p.~p.n = 1;");
        finds("$a - $b -> 2", "x = @1 - 2 - 3 - ~4; x = 1 * @(2 - 3~);");
        finds("$a * $b -> 2", "x = @1 * ~2 + @3 * ~4; x = 1 + @2 * 3 * ~4;");
        finds("x + $a -> 2", "x = @x + ~x + x; x = @x + ~1 + x; x = @(x + 1~) + x;");
        finds("(x) -> 2", "x = @((x)~) + @(x~) + @~x;");
        finds("$a -> 2", "x = @((1 + 2) * 3~);");
    }

    private static void passedOver() {
        finds("i($a) -> $a", "x = @i(i(i(1))~) + @i(1~); x = j(@i(1~), @i(i(2)~));");
        finds("$a + $b -> $a", "x = @i(1 + 2) + ~3; x = i(@1 + ~2) * i(@3 + ~4);");
        finds("i(1 + $a) -> $a", "x = i(@i(1 + 2~) + i(1)); x = @i(1 + i(1 + 2)~);");
        finds("1 -> 2", "x = i(@~1) + j(@~1, @~1 - @~1);");
    }

    // Promise 30.

    private static void foundEdges() {
        House x = finds("x -> 1", "x = @~x + @~x;");
        int first = AHEAD.length() + 4;
        House.due("first", x.h.found(0, 0), first);
        House.due("second", x.h.found(1, 0), first + 4);
        for (int i : new int[] {-1, 2, LEAST, MOST}) {
            House.due("found " + i, x.h.found(i, 0), -1);
        }
        for (int what : new int[] {-1, 2, LEAST, MOST}) {
            House.due("found what " + what, x.h.found(0, what), -1);
        }
        House.due("none", x.recipe("77 -> 1"), 0);
        House.due("none", x.h.found(0, 0), -1);
        // In fields, static ones, all FILES, by their PLACES.
        House y = House.of("class A { int f = 1; static int g = 2 * 1; }");
        y.load(3, "class C { int f = 1; }");
        y.load(1, "class B extends A { void m() { print 1; } int h = -1; }");
        House.due("five", y.recipe("1 -> 3"), 5);
        int[] at = {18, 40, 10037, 10051, 30018};
        for (int i = 0; i < at.length; i++) {
            House.due("found " + i, y.h.found(i, 0), at[i]);
            House.due("found " + i, y.h.found(i, 1), at[i]);
        }
        // As many tokens as a FILE may have but one, each second one found.
        House z = House.of("class A { int f = 1" + House.times(295, "+1") + "; }");
        House.due("found", z.recipe("1 -> 2"), 296);
        House.due("the last", z.h.found(295, 0), 18 + 590);
        House.due("all in one", z.recipe("$a + $b -> 2"), 1);
        House.due("its first", z.h.found(0, 0), 18);
        House.due("its last", z.h.found(0, 1), 18 + 590);
    }

    // Promise 31.

    private static void put(String recipe, String text, String want) {
        String program = "class A { int f; A a; int g(int a, int b) { return 0; } bool q; void m(int x, int y) { ";
        House x = House.of(program + text + " } }");
        House.due("judge of " + text, x.told(x.h.judge()), "0");
        int n = x.recipe(recipe);
        House.due(recipe + " in " + text, x.told(x.h.put()), "0");
        House.due("EDITS", x.h.edits(), n);
        House.due("apply", x.h.apply(), 1);
        House.due(recipe + " in " + text, x.text(0), program + want + " } }");
        House.due("undo", x.h.undo(), 0);
    }

    private static void puts() {
        // One token comes as it is, others in ( ), a blank between each two.
        put("x -> y", "x = x+x;", "x = y+y;");
        put("x -> -y", "x = x+x;", "x = (- y)+(- y);");
        put("x -> (y)", "x = x;", "x = (( y ));");
        put("x -> this.g(1,2)", "x = x;", "x = (this . g ( 1 , 2 ));");
        put("x -> new A().f", "x = x;", "x = (new A ( ) . f);");
        put("x -> 1+2 // twice\n *3", "x = x;", "x = (1 + 2 * 3);");
        put("x -> A", "x = 1; int A = 2; x = A + x;", "x = 1; int A = 2; x = A + A;");
        // A blank in front where a letter or digit is.
        put("(x) -> y", "x = 1;print(x);", "x = 1;print y;");
        put("(x + 1) -> y", "x = 1;print(x+1);", "x = 1;print y;");
        put("x + 1 -> 2", "print(x+1);", "print 2;");
        put("x + 1 -> -2", "print(x+1);", "print(- 2);");
        put("(x) -> read", "if (q) print(x);else print(x);", "if (q) print read;else print read;");
        // Each $ the COPY of what it stood for, in ( ) unless that is one token.
        put("$a + 0 -> $a", "x = x + 0; x = (x) + 0; x = x * y + 0; x = (x * y) + 0; x = -x + 0;", "x = x; x = ((x)); x = (x * y); x = ((x * y)); x = (-x);");
        put("$a - $b -> $b - $a", "x = 1 - y; x = 1 - 2 - 3; x = (1) - g(1, 2);", "x = (y - 1); x = (3 - (1 - 2)); x = ((g(1, 2)) - ((1)));");
        put("g($a, $b) -> $a * $a + $b", "x = g(1, 2); x = g(1 + 2, (3));", "x = (1 * 1 + 2); x = ((1 + 2) * (1 + 2) + ((3)));");
        put("-$a -> 0 - $a", "x = --x; x = -(x);", "x = (0 - (-x)); x = (0 - ((x)));");
        put("$a : A . f -> $a . a . f", "x = a.f + a.a.f;", "x = (a . a . f) + ((a.a) . a . f);");
        // A COPY has all of its bytes.
        put("0 + $a -> $a", "x = 0 + (x // one\n  *\ty);", "x = ((x // one\n  *\ty));");
        put("g($a, 0) -> $a", "x = g(x  -  y, 0);", "x = (x  -  y);");
        // Of one that is there twice the first.
        put("g($a, $a) -> $a", "x = g(x, (x)); x = g((x), x); x = g(((x)), (x)); x = g(x - 1, (x// a\n-1));",
            "x = x; x = ((x)); x = (((x))); x = (x - 1);");
        put("$a + 1 + $a -> $a", "x = (x) + 1 + x; x = x + 1 + (x);", "x = ((x)); x = x;");
        // ( ) of the RECIPE's first exp are none; those around all that was found go.
        put("($a) + (0) -> $a", "x = x + 0; x = ((x) + 0) * 2;", "x = x; x = ((x)) * 2;");
        put("$a -> $a", "x = 1; x = 1 + 2; x = (1); x = ((1 + 2));", "x = 1; x = (1 + 2); x = ((1)); x = (((1 + 2)));");
        put("$a + $b -> ($a) * ($b)", "x = 1 + y;", "x = (( 1 ) * ( y ));");
        // Only what was found goes; a target and an S stay.
        put("a.f -> 1", "a.f = a.f; a.a.f = a.f;", "a.f = 1; a.a.f = 1;");
        put("g($a, $b) -> $a", "g(1, g(2, 3)); g(g(4, 5), 6);", "g(1, 2); g(4, 6);");
    }

    private static void putConditions() {
        House x = House.of(PROGRAM);
        x.recipe("1 -> 2");
        x.ask(0, 14, 0, "");
        House.due("none is found", x.told(x.h.put()), "1");
        House.due("no EDITS", x.h.edits(), 0);
        breaks("1 -> true", "class A { int f = @1; }", 20);
        breaks("$a + 1 -> $a.f", "class A { int f; int g = 2@ + 1; }", 20);
        breaks("1 -> zzz", "class A { int f = @1 + 1; }", 20);
        // A NAME of the COPY that means another one there: a call by its arguments' types.
        breaks("new B() -> new A()", "class A { int m(A a) { return 1; } int m(B b) { return 2; } int k() { return @m(new B()); } } class B extends A { }", 21);
        breaks("$a : B -> this", "class A { int m(A a) { return 1; } int m(B b) { return 2; } int k(B b) { return m(this) + @m(b); } } class B extends A { }", 21);
        // NAMES that came anew have no OLD one: they may mean anything.
        House y = House.of("class A { int f; static int s; int g = 1; }");
        y.recipe("1 -> f + s");
        House.due("SOUND", y.told(y.h.put()), "0");
        House.due("EDIT", y.edit(0), "39-1:(f + s)");
        House.due("apply", y.h.apply(), 1);
        // A FILE of more than 3000 bytes; a FAULT.
        String text = "class A { int f = 1; } //";
        House z = House.of(text + House.times(2999 - text.length(), "x"));
        z.recipe("1 -> 12");
        House.due("3000 bytes", z.told(z.h.put()), "0");
        z.recipe("1 -> 123");
        House.due("3001 bytes", z.told(z.h.put()), "20@0");
        House w = House.of("class A { int f = " + House.times(19, "-") + "1; }");
        w.recipe("1 -> 2 + 3");
        House.due("20 others", w.told(w.h.put()), "0");
        w.recipe("1 -> -2");
        House.due("21 others", w.told(w.h.put()), "20@40");
        House.due("as it was", w.h.size(0), 41);
    }

    private static void breaks(String recipe, String marked, int condition) {
        House x = House.of(House.bare(marked));
        House.due("judge of " + marked, x.told(x.h.judge()), "0");
        House.due("found", x.recipe(recipe) > 0 ? 1 : 0, 1);
        House.due(recipe + " in " + marked, x.told(x.h.put()), condition + "@" + House.marks(marked)[0]);
        House.due("no EDITS", x.h.edits(), 0);
        House.due("not done", x.h.apply(), -2);
    }

    // Promises 32 and 33.

    private static void alike(int n, String marked, String want) {
        String ahead = "class A { int f; int g; A a; int k(int a, int b) { return 0; } void v(int a, int b, bool c) { ";
        House x = House.of(House.bare(ahead + marked + " } }"));
        House.due("judge of " + marked, x.told(x.h.judge()), "0");
        int[] at = House.marks(ahead + marked);
        int count = x.h.alike(n);
        StringBuilder got = new StringBuilder();
        for (int i = 0; i < count; i++) {
            got.append(i == 0 ? "" : " ");
            for (int which = 0; which < 2; which++) {
                int mark = -1;
                for (int k = 0; k < at.length; k++) {
                    mark = at[k] == x.h.pair(i, which) ? k : mark;
                }
                got.append(mark < 0 ? "?" : "" + mark).append(which == 0 ? "=" : "");
            }
        }
        House.due("alike " + n + " of " + marked, got.toString(), want);
    }

    private static void alikeNumbers() {
        House x = House.of("class A { void m() { print 1 + 2; print 1 + 2; } }");
        for (int n : new int[] {4, 101, 0, -1, -5, LEAST, MOST}) {
            House.due("n " + n, x.h.alike(n), -1);
        }
        for (int n = 5; n <= 100; n++) {
            House.due("n " + n, x.h.alike(n), n == 5 ? 1 : 0);
        }
        // 100 tokens: 25 S's of four each, twice.
        String four = House.times(25, "m(); ");
        House y = House.of("class A { void m() { " + four + four + "} }");
        House.due("100", y.h.alike(100), 1);
        House.due("first", y.h.pair(0, 0), 21);
        House.due("second", y.h.pair(0, 1), 21 + 125);
        House.due("96 and 8 too many", y.h.alike(96), 1 + 2 + 3);
        House.due("a S more is none", y.h.alike(99), 0);
        // 1000 at most: the first ones.
        for (int n = 44; n < 48; n++) {
            House z = House.of("class A { void m() { " + House.times(n, "print 1 + 2; ") + "} }");
            House.due("pairs of " + n, z.h.alike(5), Math.min(1000, n * (n - 1) / 2));
            House.due("the first", z.h.pair(0, 1), 21 + 13);
            House.due("none behind", z.h.pair(Math.min(1000, n * (n - 1) / 2), 0), -1);
        }
        House z = House.of("class A { void m() { " + House.times(60, "print 1 + 2; ") + "} }");
        House.due("1000 of 1770", z.h.alike(5), 1000);
        House.due("the last one", z.h.pair(999, 0), 21 + 13 * 20);
        House.due("the last one", z.h.pair(999, 1), 21 + 13 * (21 + 999 - (59 + 40) * 20 / 2));
    }

    private static void alikeRuns() {
        // They do not overlap, but may stand side by side.
        alike(5, "@print 1 + 2; @print 1 + 2;", "0=1");
        alike(6, "@print 1; @print 1; @print 1; print 1;", "0=2");
        alike(6, "@print 1; @print 1; @print 1; @print 1; print 1;", "0=2 0=3 1=3");
        alike(9, "@print 1; print 1; print 1; @print 1; print 1; print 1;", "0=1");
        // From a S's first token to a S's last one.
        alike(5, "a = 1 + 2; b = 1 + 2;", "");
        alike(6, "@a = 1 + 2; @b = 1 + 2;", "0=1");
        alike(5, "a = 1; b = 1; a = 2; b = 2;", "");
        alike(7, "@print 1; a = 1; print 2; @print 1; b = 1;", "0=1");
        // Each within one block.
        alike(7, "print 1; } void w(int a) { a = 1; } void u(int a) { print 1; a = 1;", "");
        alike(6, "{ print 1; } print 1; { print 1; print 1; }", "");
        alike(6, "{ @print 1; print 1; } @print 1; print 1;", "0=1");
        alike(5, "@{ print 1; } @{ print 1; }", "0=1");
        alike(6, "@{ { } } { } @{ { } } { }", "0=1");
        // Of an if, else or while all of it, or what stands in its block.
        alike(7, "@if (c) print 1; @if (c) print 1;", "0=1");
        alike(5, "if (c) a = 1 + 2; if (c) a = 1 + 2; a = 3;", "");
        alike(9, "@if (c) { print 1; } @if (c) { print 1; }", "0=1");
        alike(5, "if (c) { @print 1 + 2; } while (c) { @print 1 + 2; } if (c) { } else { @print 1 + 2; }", "0=1 0=2 1=2");
        alike(8, "@while (c) a = b; @while (c) g = f; while (c) a = a;", "0=1");
        // Of a method's own block what is in it.
        House x = House.of("class A { void m() { print 1; } void n() { print 1; } }");
        for (int n = 5; n <= 20; n++) {
            House.due("no S", x.h.alike(n), 0);
        }
        // Of fields none.
        House y = House.of("class A { int f = 1 + 2; int g = 1 + 2; }");
        for (int n = 5; n <= 20; n++) {
            House.due("no S's", y.h.alike(n), 0);
        }
    }

    private static void alikeNames() {
        // The same tokens by their bytes, but NAMES.
        alike(5, "@print a + b; @print f + g; print a - b; print a + 1;", "0=1");
        alike(5, "@print 1 + a; print 2 + a; @print 1 + b; print 01 + b;", "0=1");
        alike(5, "print a + b; print a + a;", "");
        alike(5, "@print a + a; print a + b; @print b + b;", "0=1");
        alike(7, "@print a + b + a; @print b + a + b; print a + b + b; print a + a + b; print a + b + f;", "0=1");
        alike(7, "@print a + b + b; print a + b + a; @print b + a + a; print f + f + g;", "0=1");
        alike(7, "@print a + b + f; @print g + a + b; @print f + g + a;", "0=1 0=2 1=2");
        // Whatever they mean: fields, methods, params, classes.
        alike(7, "print f + k(f, f); print k(f, f) + f;", "");
        alike(5, "@A x = null; @B y = null; int z = 1; } } class B { void m() { @A z = null; @B u = null; bool w = true;", "0=1 0=2 0=3 1=2 1=3 2=3");
        alike(8, "this.a.f = f; this.a.g = f;", "");
        alike(8, "@this.a.f = f; @this.a.g = g;", "0=1");
        // One to one over all of the run, not S by S.
        alike(8, "@a = 1; @b = 1; @a = 1; @b = 1;", "0=2");
        alike(8, "a = 1; b = 1; a = 1; a = 1;", "");
        alike(8, "a = 1; a = 1; b = 1; a = 1;", "");
        alike(8, "@a = 1; @a = 1; @b = 1; @b = 1; f = 1;", "0=2 1=3");
        // WORDS are no NAMES.
        alike(5, "int x = 1; bool y = true; print x;", "");
        alike(5, "print a + b; print a + read;", "");
        // What stood ahead of a run counts for nothing.
        alike(5, "a = b; @print a + b; g = 7; @print b + g;", "0=1");
    }

    private static void alikePlaces() {
        // In other methods, classes and FILES; blanks and remarks are no tokens.
        House x = House.of("class A { void m(int a) { print a // one\n + 1; } }");
        x.load(2, "class B { void m(int b) { if (b==1) { print  b+1  ; } } static int s(int c) { print c+1; return c+1; } }");
        House.due("pairs", x.h.alike(5), 3);
        int[][] want = {{26, 20000 + x.text(2).indexOf("print  b")}, {26, 20000 + x.text(2).indexOf("print c")},
            {20000 + x.text(2).indexOf("print  b"), 20000 + x.text(2).indexOf("print c")}};
        for (int i = 0; i < want.length; i++) {
            House.due("pair " + i, x.h.pair(i, 0), want[i][0]);
            House.due("pair " + i, x.h.pair(i, 1), want[i][1]);
        }
    }

    private static void pairs() {
        House x = House.of("class A { void m(int a) { print a + 1; print a + 1; print a + 1; } }");
        House.due("none yet", x.h.pair(0, 0), -1);
        House.due("three", x.h.alike(5), 3);
        int[][] want = {{26, 39}, {26, 52}, {39, 52}};
        for (int i = 0; i < 3; i++) {
            House.due("pair " + i, x.h.pair(i, 0), want[i][0]);
            House.due("pair " + i, x.h.pair(i, 1), want[i][1]);
        }
        for (int i : new int[] {-1, 3, 999, 1000, LEAST, MOST}) {
            House.due("pair " + i, x.h.pair(i, 0), -1);
            House.due("pair " + i, x.h.pair(i, 1), -1);
        }
        for (int which : new int[] {-1, 2, LEAST, MOST}) {
            House.due("which " + which, x.h.pair(0, which), -1);
        }
        House.due("BAD", x.h.alike(4), -1);
        House.due("they stay", x.h.pair(2, 1), 52);
        x.recipe("1 -> 2");
        x.h.put();
        x.ask(0, 6, 0, "Z");
        x.h.run(0);
        House.due("they stay", x.h.pair(2, 1), 52);
        House.due("none of 6", x.h.alike(6), 0);
        House.due("none", x.h.pair(0, 0), -1);
        House.due("three", x.h.alike(5), 3);
        House.due("apply", x.h.apply(), 1);
        House.due("none any more", x.h.pair(0, 0), -1);
        House.due("three", x.h.alike(5), 3);
        House.due("undo", x.h.undo(), 0);
        House.due("none any more", x.h.pair(0, 0), -1);
        House.due("three", x.h.alike(5), 3);
        House.due("redo", x.h.redo(), 1);
        House.due("none any more", x.h.pair(0, 0), -1);
        House.due("three", x.h.alike(5), 3);
        House.due("no redo", x.h.redo(), -2);
        House.due("a FAULT", x.load(3, "!"), -12);
        House.due("they stay", x.h.pair(2, 1), 52);
        House.due("a load", x.load(3, "class B { B b = 1; }"), 9);
        House.due("none any more", x.h.pair(0, 0), -1);
        House.due("ERRORS", x.h.alike(5), -2);
        House.due("none", x.h.pair(0, 0), -1);
    }
}
