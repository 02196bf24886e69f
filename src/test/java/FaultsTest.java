/** THE TAPE, FILES, tokens and FAULTS: promises 1 to 8. */
public final class FaultsTest {
    public static void main(String[] args) {
        newObject();
        tape();
        loads();
        tokens();
        firstAndSecondFault();
        tooMany();
        tooDeep();
        House.end("FaultsTest");
    }

    private static void newObject() {
        RefactorHouse h = new RefactorHouse();
        for (int f = 0; f < 4; f++) {
            House.due("new size", h.size(f), 0);
            House.due("new octet", h.octet(f, 0), -1);
        }
        House.due("new cut(0)", h.cut(0), 0);
        House.due("new cut(1)", h.cut(1), -1);
        House.due("new place", h.place(), -2);
        House.due("new judge", h.judge(), 0);
        House.due("new count", h.count(0), 0);
        House.due("new edits", h.edits(), 0);
        House.due("new ran", h.ran(0), -2);
        House.due("new number", h.number(0), 0);
        House.due("new undo", h.undo(), -2);
        House.due("new redo", h.redo(), -2);
        House.due("new apply", h.apply(), -2);
        House.due("new put", h.put(), -2);
        House.due("new found", h.found(0, 0), -1);
        House.due("new pair", h.pair(0, 0), -1);
        House.due("BAD", RefactorHouse.BAD, -1);
        House.due("NO", RefactorHouse.NO, -2);
        House.due("FULL", RefactorHouse.FULL, -3);
    }

    private static void tape() {
        RefactorHouse h = new RefactorHouse();
        for (int i = 1; i <= 200; i++) {
            House.due("feed", h.feed(0x20202020, 0, -1, 5, 6), 20 * i);
        }
        House.due("feed too much", h.feed(1, 2, 3, 4, 5), -3);
        House.due("cut(1)", h.cut(1), 3999);
        House.due("feed too much still", h.feed(1, 2, 3, 4, 5), -3);
        House.due("cut(-1)", h.cut(-1), -1);
        House.due("cut(4000)", h.cut(4000), -1);
        House.due("cut(19)", h.cut(19), 3980);
        House.due("feed up to 4000", h.feed(1, 2, 3, 4, 5), 4000);
        House.due("load of a bad FILE", h.load(4), -1);
        House.due("load of a bad FILE", h.load(-1), -1);
        House.due("THE TAPE stays", h.cut(0), 4000);
        House.due("load of too much", h.load(0), -3);
        House.due("THE TAPE is empty", h.cut(0), 0);
        House.due("the FILE stays", h.size(0), 0);

        House x = new House();
        House.due("bytes in order", x.load(1, "class Ab { }//\u00e9\u00ff"), 4);
        House.due("size", x.h.size(1), 16);
        House.due("octet 0", x.h.octet(1, 0), 'c');
        House.due("octet 14", x.h.octet(1, 14), 233);
        House.due("octet 15", x.h.octet(1, 15), 255);
        House.due("octet 16", x.h.octet(1, 16), -1);
        House.due("octet -1", x.h.octet(1, -1), -1);
        House.due("octet of FILE 4", x.h.octet(4, 0), -1);
        House.due("octet of FILE -1", x.h.octet(-1, 0), -1);
        House.due("size of FILE 4", x.h.size(4), -1);
        House.due("size of FILE -1", x.h.size(-1), -1);
    }

    private static void loads() {
        House x = House.of("class A { int f; }");
        House.due("FAULT", x.load(0, "class"), -12);
        House.due("place of FAULT", x.h.place(), 5);
        House.due("the FILE stays", x.text(0), "class A { int f; }");
        House.due("load FILE 3", x.load(3, "class B extends A { }"), 6);
        House.due("place", x.h.place(), -2);
        House.due("FAULT in FILE 3", x.load(3, "class B ?"), -11);
        House.due("place in FILE 3", x.h.place(), 30008);
        House.due("load BAD", x.h.load(7), -1);
        House.due("place stays", x.h.place(), 30008);
        x.tape(House.times(3001, " "));
        House.due("load FULL", x.h.load(3), -3);
        House.due("place of FULL", x.h.place(), -2);
        House.due("load 3000", x.load(3, House.times(3000, " ")), 0);
        House.due("size 3000", x.h.size(3), 3000);
        House.due("load nothing", x.load(0, ""), 0);
        House.due("size 0", x.h.size(0), 0);
    }

    private static void tokens() {
        String text = "class A // x\n{\tint f1=12;\r bool g = 1 <=2;}";
        House x = new House();
        House.due("tokens", x.load(2, text), 16);
        String[] want = {"class", "A", "{", "int", "f1", "=", "12", ";", "bool", "g", "=", "1", "<=", "2", ";", "}"};
        int[] sort = {3, 1, 4, 3, 1, 4, 2, 4, 3, 1, 4, 2, 4, 2, 4, 4};
        int at = 0;
        int k = 0;
        for (int i = 0; i < text.length() + 2; i++) {
            int p = 20000 + i;
            if (k < want.length && i == (k == 1 ? 6 : text.indexOf(want[k], at)) && (k < 2 || i > 11)) {
                House.due("length of " + want[k], x.h.token(p, 0), want[k].length());
                House.due("sort of " + want[k], x.h.token(p, 1), sort[k]);
                at = i + want[k].length();
                k++;
            } else {
                House.due("no token at " + i, x.h.token(p, 0), -2);
                House.due("no token at " + i, x.h.token(p, 1), -2);
            }
        }
        House.due("all tokens", k, want.length);
        String words = "class extends static int bool void if else while return print read new this null true false";
        int p = 0;
        for (String w : words.split(" ")) {
            House y = House.of("class " + w + "x { } class x" + w + " { }");
            House.due("a NAME " + w + "x", y.h.token(6, 1), 1);
            House.due("a NAME x" + w, y.h.token(18 + w.length(), 1), 1);
            p++;
        }
        House.due("17 WORDS", p, 17);
        House y = House.of("class A extends B { static void m(bool b) { if (b) print read; else while (false) return; } "
            + "A f = new A(); bool g = this == null || true; int h; } class B { }");
        int seen = 0;
        for (int i = 0; i < y.h.size(0); i++) {
            seen += y.h.token(i, 1) == 3 ? 1 : 0;
        }
        House.due("WORDS in it", seen, 19);
        House.due("token what", x.h.token(20000, 2), -1);
        House.due("token what ahead of NO", x.h.token(5, -1), -1);
        House.due("token nowhere", x.h.token(-20000, 0), -2);
        House.due("token nowhere", x.h.token(40000, 0), -2);
    }

    /** The FAULT of a text is at its mark. */
    private static void fault(String marked, int fault) {
        House x = new House();
        int answer = x.load(0, House.bare(marked));
        House.due("load of " + marked, x.told(answer), (-10 - fault) + "@" + House.marks(marked)[0]);
        House.due("nothing loaded", x.h.size(0), 0);
    }

    private static void fine(String text, int tokens) {
        House x = new House();
        House.due("load of " + text, x.told(x.load(0, text)), "" + tokens);
    }

    private static void inBody(String marked, int fault) {
        fault("class A { void m() { " + marked, fault);
    }

    private static void firstAndSecondFault() {
        fault("class A @# { }", 1);
        fault("class @abcdefghijklm { }", 1);
        fine("class abcdefghijkl { }", 4);
        fault("class A { int f = @1234567890; }", 1);
        fine("class A { int f = 123456789; }", 9);
        fault("class A { bool f = 1 @& 2; }", 1);
        fault("class A { bool f = 1 @| 2; }", 1);
        fault("class A { int @$a; }", 1);
        fault("class A { int f @: 1; }", 1);
        fault("class A { int @_f; }", 1);
        fault("class A { int @int; ?", 2);
        fault("@x class", 2);
        fault("@1", 2);
        fault("class @class { }", 2);
        fault("class A @", 2);
        fault("class A extends @{ }", 2);
        fault("class A { @", 2);
        fault("class A { } @}", 2);
        fault("class A { f@; }", 2);
        fault("class A { static @static int f; }", 2);
        fault("class A { void f@; }", 2);
        fault("class A { int f @+ 1; }", 2);
        fault("class A { int f = @; }", 2);
        fault("class A { int f = 1 @}", 2);
        fault("class A { int f = 123@abc; }", 2);
        fault("class A { void f(@void x) { } }", 2);
        fault("class A { void f(int x@;) { } }", 2);
        fault("class A { void f(int x, @) { } }", 2);
        fault("class A { void f() @; }", 2);
        fault("class A { int f = new B@; }", 2);
        fault("class A { int f = new B(@1); }", 2);
        fault("class A { int f = a.@1; }", 2);
        fault("class A { int f = a.@this; }", 2);
        fault("class A { int f = g(1, @); }", 2);
        fault("class A { int f = (@); }", 2);
        fault("class A { int f = 1 + @* 2; }", 2);
        fault("class A { int f = 1 - @> 2; }", 2);
        inBody("int @= 3; } }", 2);
        inBody("int x@; } }", 2);
        inBody("A x@; } }", 2);
        inBody("A x = 1@) } }", 2);
        inBody("x = 1 @= 2; } }", 2);
        inBody("if @x { } } }", 2);
        inBody("if (x) @} }", 2);
        inBody("@else { } } }", 2);
        inBody("while (x@; } }", 2);
        inBody("return 1@} }", 2);
        inBody("print @; } }", 2);
        inBody("@; } }", 2);
        inBody("x.y@} }", 2);
        fine("class A { void m() { if (a) if (b) c(); else d(); e(); } }", 31);
        inBody("if (a) if (b) c(); else d(); else e(); @else f(); } }", 2);
    }

    private static void tooMany() {
        // 4 tokens of the class and 3 of each field, 24 at most in a class.
        String full = "class A { " + House.times(24, "int f; ") + "}";
        fine(full, 76);
        fault("class A { " + House.times(24, "int f; ") + "int @g; }", 3);
        fault("class A { " + House.times(24, "int f; ") + "int @if; }", 2);
        fault("class A { " + House.times(24, "int f; ") + "void @m() { } }", 3);
        fine(House.times(8, "class A { } "), 32);
        fault(House.times(8, "class A { } ") + "class @A { }", 3);
        fault(House.times(8, "class A { } ") + "class @1", 2);
        House x = House.of("class A { } class B { } class C { }");
        House.due("five classes more", x.load(2, House.times(5, "class A { } ")), 20);
        House.due("a ninth", x.load(1, "class A { }"), -13);
        House.due("at its NAME", x.h.place(), 10006);
        House.due("a ninth in FILE 0", x.load(0, House.times(4, "class A { } ")), -13);
        House.due("at its NAME", x.h.place(), 42);
        House.due("as many as there were", x.load(0, House.times(3, "class A { } ")), 12);
        fine("class A { void m(" + House.times(7, "int a, ") + "int a) { } }", 4 + 4 + 8 * 3 - 1 + 2);
        fault("class A { void m(" + House.times(8, "int a, ") + "int @a) { } }", 3);
        fault("class A { void m(" + House.times(8, "int a, ") + "a@", 2);
        fault("class A { void m(" + House.times(8, "int a, ") + "int @void", 2);
        // 600 tokens: 9 of class and method, 3 of each call with another NAME in it.
        String body = House.times(147, "f(); ");
        fine("class A { void m() { " + body + "} }", 10 + 588);
        fine("class A { void m() { " + body + "{ } } }", 600);
        fault("class A { void m() { " + body + "{ } } } @class", 3);
        fault("class A { void m() { " + body + "{ } } } @x", 2);
        fault("class A { void m() { " + body + "{ } } } @#", 1);
        fault("class A { void m() { " + body + "{ } { } @} }", 3);
        fault("class A { void m() { " + body + "{ } { @", 2);
    }

    private static void tooDeep() {
        // A method's own block is 1; 19 ( ) more are fine, what stands within a 20th is not.
        fine("class A { void m() { print " + House.times(19, "(") + "1" + House.times(19, ")") + "; } }", 51);
        inBody("print " + House.times(20, "(") + "@1" + House.times(20, ")") + "; } }", 3);
        inBody("print " + House.times(20, "(") + "@", 3);
        inBody("print " + House.times(20, "(") + "@; } }", 3);
        inBody("print " + House.times(20, "(") + "@) } }", 2);
        inBody("print " + House.times(20, "(") + "@} }", 2);
        inBody("print " + House.times(20, "(") + "@# }", 1);
        // Without a block around it: 20 in a field's exp.
        fine("class A { int f = " + House.times(20, "-") + "1; }", 29);
        fault("class A { int f = " + House.times(21, "-") + "@1; }", 3);
        fault("class A { bool f = " + House.times(21, "!") + "@; }", 3);
        // Arguments: none at hand is fine however deep, one is not.
        fine("class A { int f = " + House.times(20, "(") + "g()" + House.times(20, ")") + "; }", 51);
        fault("class A { int f = " + House.times(20, "(") + "g(@1)" + House.times(20, ")") + "; }", 3);
        fault("class A { int f = " + House.times(20, "g(") + "g(@-1)" + House.times(20, ")") + "; }", 3);
        // Blocks: } at hand is fine.
        fine("class A { void m() { " + House.times(20, "{") + House.times(20, "}") + " } }", 50);
        inBody(House.times(20, "{") + "@f(); }", 3);
        inBody(House.times(20, "{") + "@", 3);
        inBody(House.times(20, "{") + "@) }", 2);
        // S of if, else, while; a block there counts twice.
        fine("class A { void m() { " + House.times(19, "if (a) ") + "f(); } }", 8 + 19 * 4 + 4 + 2);
        // The ( ) of the 20th if is too much already.
        inBody(House.times(19, "if (a) ") + "if (@a) f(); } }", 3);
        inBody(House.times(9, "while (a) {") + "if (b) { @f(); }", 3);
        fine("class A { void m() { " + House.times(9, "while (a) {") + "if (b) f();" + House.times(9, "}") + " } }",
            8 + 9 * 5 + 8 + 9 + 2);
        inBody(House.times(9, "while (a) {") + "if (b) f(); else { @f(); }", 3);
        inBody(House.times(9, "while (a) {") + "if (b) f(); else { } if (c) { @if (", 3);
        inBody(House.times(9, "while (a) {") + "if (b) f(@1);", 3);
        inBody(House.times(9, "while (a) {") + "if (f(@1)) f();", 3);
        inBody(House.times(9, "while (a) {") + "if (-@1) f();", 3);
    }
}
