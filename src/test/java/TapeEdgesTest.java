/** Edges of THE TAPE, FILES and tokens, promise by promise: 1 to 8. */
public final class TapeEdgesTest {
    private static final int LEAST = Integer.MIN_VALUE;
    private static final int MOST = Integer.MAX_VALUE;

    public static void main(String[] args) {
        newObject();
        feedAndCut();
        loads();
        loadsThatAreRefused();
        loadThatIsDone();
        placesTold();
        sizesAndOctets();
        tokenPlaces();
        blanks();
        remarks();
        names();
        signs();
        endsOfTexts();
        fullFiles();
        fullClasses();
        twoFaultsOfOneToken();
        nests();
        House.end("TapeEdgesTest");
    }

    // Promise 1.

    private static void newObject() {
        RefactorHouse h = new RefactorHouse();
        House.due("cut of nothing", h.cut(1), -1);
        for (int f = 0; f < 4; f++) {
            House.due("bytes of FILE " + f, h.size(f), 0);
            House.due("token", h.token(10000 * f, 0), -2);
        }
        House.due("means", h.means(0, 0), -2);
        House.due("type", h.type(0, 0), -2);
        for (int what = 0; what < 5; what++) {
            House.due("count", h.count(what), 0);
            House.due("told", h.told(what, 0), -1);
        }
        House.due("uses", h.uses(0), -2);
        House.due("use", h.use(0, 0), -2);
        House.due("family", h.family(0), -2);
        House.due("drain", h.drain(), 0);
        House.due("ran", h.ran(1), -2);
        House.due("run", h.run(0), 7);
        House.due("ran", h.ran(0) + h.ran(1) + h.ran(2) + h.ran(3), 0);
        House.due("where it failed", h.ran(4), -2);
        House.due("run of another one", h.run(1), -2);
        House.due("twin", h.twin(1, 0), -2);
        House.due("edit", h.edit(0, 0), -1);
        House.due("alike", h.alike(5), 0);
        House.due("pair", h.pair(0, 0), -1);
        House.due("load of nothing", h.load(3), 0);
        House.due("recipe of nothing", h.recipe(), -12);
        House.due("at the end", h.place(), 0);
        House.due("rename of nothing", h.ask(0, 0, 0), 1);
        House.due("of a", h.place(), 0);
    }

    // Promises 2 and 3.

    private static RefactorHouse withTape(int bytes) {
        RefactorHouse h = new RefactorHouse();
        int n = 0;
        while (n < bytes) {
            n = h.feed(0x20202020, 0x20202020, 0x20202020, 0x20202020, 0x20202020);
        }
        h.cut(n - bytes);
        return h;
    }

    private static void feedAndCut() {
        House.due("up to 4000", withTape(3980).feed(1, 2, 3, 4, 5), 4000);
        for (int n = 3981; n <= 4000; n++) {
            RefactorHouse h = withTape(n);
            House.due("there would be " + (n + 20), h.feed(1, 2, 3, 4, 5), -3);
            House.due("as many as before", h.cut(0), n);
            House.due("down to 3000", h.cut(n - 3000), 3000);
            House.due("as before", h.load(0), 0);
        }
        RefactorHouse h = withTape(40);
        House.due("too many", h.cut(41), -1);
        House.due("less than none", h.cut(-1), -1);
        House.due("least", h.cut(LEAST), -1);
        House.due("most", h.cut(MOST), -1);
        House.due("none", h.cut(0), 40);
        House.due("one", h.cut(1), 39);
        House.due("all", h.cut(39), 0);
        House.due("none of none", h.cut(0), 0);
        House.due("one of none", h.cut(1), -1);
        House.due("behind nothing again", h.feed(0, 0, 0, 0, 0), 20);
        // The highest byte of each int first, the last ones go.
        RefactorHouse x = new RefactorHouse();
        x.feed(0x2f2fff80, 0x7f010203, -1, LEAST, MOST);
        x.cut(3);
        House.due("a remark", x.load(2), 0);
        int[] bytes = {47, 47, 255, 128, 127, 1, 2, 3, 255, 255, 255, 255, 128, 0, 0, 0, 127};
        House.due("bytes", x.size(2), bytes.length);
        for (int i = 0; i < bytes.length; i++) {
            House.due("byte " + i, x.octet(2, i), bytes[i]);
        }
    }

    // Promise 4.

    private static void loads() {
        House x = new House();
        House.due("3000 bytes", x.load(1, "class A { }" + House.times(2989, "\n")), 4);
        House.due("size", x.h.size(1), 3000);
        House.due("3001 bytes", x.load(1, "class B { }" + House.times(2990, "\n")), -3);
        House.due("it stays", x.text(1).startsWith("class A") ? 1 : 0, 1);
        House.due("THE TAPE is empty", x.h.cut(0), 0);
        House.due("3001 bytes that are a FAULT, too", x.load(1, "?" + House.times(3000, " ")), -3);
        House.due("4000 bytes", x.load(1, House.times(4000, "x")), -3);
        House.due("a FAULT at byte 2999", x.load(1, House.times(2999, " ") + "?"), -11);
        House.due("place", x.h.place(), 12999);
        House.due("THE TAPE is empty", x.h.cut(0), 0);
        House.due("nothing", x.load(1, ""), 0);
        House.due("no bytes", x.h.size(1), 0);
        for (int f : new int[] {-1, 4, LEAST, MOST}) {
            x.tape("class A { }");
            House.due("no FILE " + f, x.h.load(f), -1);
            House.due("THE TAPE stays", x.h.cut(0), 11);
            x.h.cut(11);
        }
    }

    /** Changed, found, with a history, a run and pairs. */
    private static House busy() {
        House x = House.of("class A { int f = 1; static void main() { print 1 + 1; print 1 + 1; } }");
        x.ask(0, 14, 0, "g");
        x.h.apply();
        x.ask(0, 14, 0, "h");
        x.h.apply();
        x.h.undo();
        x.h.run(0);
        x.h.alike(5);
        x.recipe("1 -> 3");
        x.ask(0, 14, 0, "i");
        return x;
    }

    private static void stays(String why, House x) {
        House.due(why + ": the change", x.h.edits(), 1);
        House.due(why + ": found", x.h.found(0, 0), 18);
        House.due(why + ": pairs", x.h.pair(0, 0) > 0 ? 1 : 0, 1);
        House.due(why + ": the run", x.numbers(), "2 2");
        House.due(why + ": steps of the run", x.h.ran(1), 3);
        House.due(why + ": the program ahead", x.h.run(1), 0);
        House.due(why + ": undo", x.h.undo(), 0);
        House.due(why + ": redo", x.h.redo(), 1);
        House.due(why + ": redo", x.h.redo(), 2);
    }

    private static void loadsThatAreRefused() {
        House x = busy();
        House.due("no such FILE", x.h.load(4), -1);
        stays("BAD", x);
        x = busy();
        House.due("too long", x.load(2, House.times(3001, " ")), -3);
        stays("FULL", x);
        x = busy();
        House.due("a FAULT", x.load(0, "class A { int f = ; }"), -12);
        stays("FAULT", x);
        x = busy();
        House.due("put of another FILE's FAULT", x.load(3, "#"), -11);
        House.due("put", x.h.put(), 0);
    }

    private static void loadThatIsDone() {
        for (int f = 0; f < 4; f++) {
            House x = busy();
            String same = x.text(f);
            House.due("the same once more", x.load(f, same), f == 0 ? 26 : 0);
            House.due("no change", x.h.edits(), 0);
            House.due("no EDIT", x.h.edit(0, 0), -1);
            House.due("not done", x.h.apply(), -2);
            House.due("nothing found", x.h.found(0, 0), -1);
            House.due("nothing to put", x.h.put(), -2);
            House.due("no pairs", x.h.pair(0, 0), -1);
            for (int what = 0; what < 5; what++) {
                House.due("no run", x.h.ran(what), -2);
            }
            House.due("no number", x.h.number(0), 0);
            House.due("no program ahead", x.h.run(1), -2);
            House.due("no twin", x.h.twin(1, 1), -2);
            House.due("nothing to undo", x.h.undo(), -2);
            House.due("nothing to redo", x.h.redo(), -2);
        }
    }

    // Promise 5.

    private static void place(String what, House x, int want) {
        House.due("place: " + what, x.h.place(), want);
    }

    private static void placesTold() {
        House x = new House();
        place("before", x, -2);
        x.load(3, "class A { int f @");
        place("FAULT 1", x, 30016);
        x.load(4, "");
        place("load BAD", x, 30016);
        x.h.judge();
        place("judge 0", x, -2);
        x.load(3, "class");
        x.load(3, House.times(3001, " "));
        place("load FULL", x, -2);
        x.load(3, "class");
        place("FAULT 2 at the end", x, 30005);
        x.load(3, "class A { int f = true; }");
        place("load without a FAULT", x, -2);
        x.h.judge();
        place("ERROR", x, 30018);
        x.ask(0, 30006, 0, "B");
        place("ask NO", x, 30018);
        x.ask(12, 30006, 0, "");
        place("ask BAD", x, 30018);
        x.recipe("1 -> 2");
        place("recipe NO", x, 30018);
        x.h.put();
        place("put NO", x, 30018);
        x.h.run(0);
        x.h.alike(5);
        x.h.means(0, 0);
        place("others tell none", x, 30018);
        x.h.cut(x.h.cut(0));
        x.load(3, "class A { int f = 1; }");
        x.ask(0, 30007, 0, "B");
        place("condition 1", x, 30007);
        x.ask(0, LEAST, 0, "B");
        place("condition 1 of a that is nowhere", x, LEAST);
        x.ask(0, MOST, 0, "B");
        place("condition 1 of a that is nowhere", x, MOST);
        x.ask(0, 30006, 0, "");
        place("condition 2", x, 30006);
        x.ask(0, 30006, 0, "B");
        place("SOUND", x, -2);
        x.ask(0, 30006, 0, "");
        x.h.put();
        place("put NO without a recipe", x, 30006);
        x.recipe("1 -> 2 +");
        place("FAULT of a RECIPE", x, 8);
        x.recipe("1 -> 2");
        place("a RECIPE without one", x, -2);
        x.ask(0, 30006, 0, "");
        x.h.put();
        place("put that is SOUND", x, -2);
        x.ask(0, 30006, 0, "");
        x.recipe("1 -> true");
        place("a RECIPE without a FAULT", x, -2);
        x.h.put();
        place("put that is not SOUND", x, 30018);
        x.recipe("7 -> 8");
        x.ask(0, 30006, 0, "");
        x.h.put();
        place("put of none", x, -2);
        x.ask(0, 30006, 0, "");
        x.recipe("7 -> 8");
        place("a RECIPE that finds none", x, -2);
        x.ask(0, 30006, 0, "C");
        x.h.apply();
        x.recipe("7 ->");
        x.h.undo();
        x.h.redo();
        place("history tells none", x, 4);
        x.h.judge();
        place("judge 0", x, -2);
    }

    // Promises 6 to 8.

    private static void sizesAndOctets() {
        House x = House.of("class A { }");
        for (int f : new int[] {-1, 4, LEAST, MOST}) {
            House.due("size of FILE " + f, x.h.size(f), -1);
            House.due("octet of FILE " + f, x.h.octet(f, 0), -1);
        }
        for (int i : new int[] {-1, 11, 2999, 3000, LEAST, MOST}) {
            House.due("octet " + i, x.h.octet(0, i), -1);
        }
        House.due("the last octet", x.h.octet(0, 10), '}');
        House.due("octet of an empty FILE", x.h.octet(1, 0), -1);
    }

    private static void tokenPlaces() {
        House x = new House();
        x.load(0, "class A { }");
        x.load(1, "class B { }");
        x.load(3, "class D { int f; }");
        for (int p : new int[] {-1, 1, 5, 11, 9999, 10001, 20000, 29999, 30018, 40000, LEAST, MOST, -30000}) {
            for (int what = 0; what < 2; what++) {
                House.due("no token at " + p, x.h.token(p, what), -2);
            }
            House.due("no NAME at " + p, x.h.means(p, 0), -2);
            House.due("nothing told at " + p, x.h.uses(p), -2);
            House.due("BAD ahead of NO", x.h.token(p, 2), -1);
            House.due("BAD ahead of NO", x.h.token(p, -1), -1);
        }
        House.due("the last token", x.h.token(30017, 0), 1);
        House.due("the first token", x.h.token(30000, 0), 5);
        House.due("the last token of FILE 0", x.h.token(10, 1), 4);
        House.due("what", x.h.token(0, LEAST), -1);
        House.due("what", x.h.token(0, MOST), -1);
    }

    // Tokens.

    private static void faultAt(String what, String text, int fault, int at) {
        House x = new House();
        House.due(what, x.told(x.load(0, text)), (-10 - fault) + "@" + at);
    }

    private static void fine(String what, String text, int tokens) {
        House x = new House();
        House.due(what, x.told(x.load(0, text)), "" + tokens);
    }

    private static void blanks() {
        for (int b = 0; b < 256; b++) {
            String text = "class" + (char) b + "A { }";
            boolean isBlank = b == 9 || b == 10 || b == 13 || b == 32;
            boolean goesOn = b >= '0' && b <= '9' || b >= 'A' && b <= 'Z' || b >= 'a' && b <= 'z';
            if (isBlank) {
                fine("byte " + b, text, 4);
            } else if (goesOn) {
                faultAt("byte " + b, text, 2, 0);
            } else {
                faultAt("byte " + b, text, "{}();,.=<>+-*/%!".indexOf(b) >= 0 ? 2 : 1, 5);
            }
        }
        fine("all of them", "\t\n\r class\tA\n{\r}\n\n \t", 4);
        fine("none but where needed", "class A{int f=1+2;bool g=1<2;}", 18);
    }

    private static void remarks() {
        fine("up to the end", "class A { }//", 4);
        fine("up to the end", "class A { }// }", 4);
        fine("up to the next 10", "class A // { } class B\n{ }", 4);
        fine("a 13 is none of it", "class A { } // x\r }", 4);
        fine("at once", "//\nclass A//\n{//\n}", 4);
        fine("in a remark", "class A { } // // x\n// ///", 4);
        fine("alone", "//", 0);
        fine("alone", "// class", 0);
        faultAt("a / at the end", "class A { }/", 2, 11);
        faultAt("two of them apart", "class A { } / / x", 2, 12);
        faultAt("no such remark", "class A { } /* x */", 2, 12);
        faultAt("behind a remark", "class A // x\n", 2, 13);
        // A token ends where a remark begins.
        fine("no blank in front", "class A{int f=1//\n/2;}", 11);
    }

    private static void names() {
        fine("all letters", "class ABCDEFGHIJKL { } class MNOPQRSTUVWX { } class YZabcdefghij { } class klmnopqrstuv { } class wxyz { }", 20);
        fine("digits", "class A0123456789 { } class z9 { } class Z0 { }", 12);
        fine("other than WORDS", "class Class { } class CLASS { } class clas { } class classs { } class If { } class tru { }", 24);
        faultAt("13", "class ABCDEFGHIJKLM { }", 1, 6);
        faultAt("13 with digits", "class A012345678901 { }", 1, 6);
        faultAt("many", "class " + House.times(2000, "x"), 1, 6);
        faultAt("a long one that begins with a WORD", "class classclassclass { }", 1, 6);
        fine("9 digits", "class A { int f = 000000000; int g = 0; }", 14);
        faultAt("10 digits", "class A { int f = 0000000000; }", 1, 18);
        faultAt("many", "class A { int f = " + House.times(2000, "9"), 1, 18);
        faultAt("a NAME behind a NUMBER", "class A { int f = 1x; }", 2, 19);
        faultAt("too long ahead of what can't stand", "class A { int f = 1 abcdefghijklm", 1, 20);
        faultAt("where it would not fit", "abcdefghijklm", 1, 0);
        faultAt("where it would not fit", "class 1234567890", 1, 6);
        String[] words = {"class", "extends", "static", "int", "bool", "void", "if", "else", "while", "return", "print", "read", "new",
            "this", "null", "true", "false"};
        for (String w : words) {
            faultAt(w + " is no NAME", "class " + w + " { }", 2, 6);
            faultAt(w + " is no NAME", "class A { int " + w + "; }", 2, 14);
            faultAt(w + " is no NAME", "class A { void m() { int x = a." + w + "; } }", 2, 31);
        }
    }

    private static void exp(String what, String text, int fault, int at) {
        faultAt(what, "class A { bool f = " + text + "; }", fault, 19 + at);
    }

    private static void signs() {
        exp("===", "1 === 2", 2, 4);
        exp("!==", "1 !== 2", 2, 4);
        exp("<==", "1 <== 2", 2, 4);
        exp(">==", "1 >== 2", 2, 4);
        exp("=<", "1 =< 2", 2, 2);
        exp("=>", "1 => 2", 2, 2);
        exp("=!", "1 =! 2", 2, 2);
        exp("<<", "1 << 2", 2, 3);
        exp("<>", "1 <> 2", 2, 3);
        exp("->", "1 -> 2", 2, 3);
        exp("!", "1 ! 2", 2, 2);
        exp("< =", "1 < = 2", 2, 4);
        exp("= =", "1 = = 2", 2, 2);
        exp("&&&", "a &&& b", 1, 4);
        exp("|||", "a ||| b", 1, 4);
        exp("& &", "a & & b", 1, 2);
        exp("| |", "a | | b", 1, 2);
        exp("&|", "a &| b", 1, 2);
        exp("..", "a..b", 2, 2);
        exp("a.1", "a.1", 2, 2);
        exp("()", "()", 2, 1);
        exp("f(,)", "f(,)", 2, 2);
        exp("f(1,)", "f(1,)", 2, 4);
        exp("(1", "(1", 2, 2);
        exp("1)", "1)", 2, 1);
        exp("f()()", "f()()", 2, 3);
        exp("(f)()", "(f)()", 2, 3);
        exp("1()", "1()", 2, 1);
        exp("new A", "new A", 2, 5);
        exp("new A.b", "new A.b", 2, 5);
        exp("new (A)()", "new (A)()", 2, 4);
        exp("new int()", "new int()", 2, 4);
        exp("+1", "+1", 2, 0);
        exp("1 +", "1 +", 2, 3);
        exp("1 2", "1 2", 2, 2);
        exp("a b", "a b", 2, 2);
        fine("! and - in front", "class A { bool f = !!true == !-1<- -2; }", 19);
        fine("as long as can be", "class A{bool f=1<=2;bool g=1==2;bool h=1!=2;bool i=1>=2;bool j=!a&&b||c;bool k=1--2;}",
            4 + 7 * 4 + 10 + 8);
        // An S of two exps has one = between.
        faultAt("a = b = c", "class A { void m() { a = b = c; } }", 2, 27);
        faultAt("int x;", "class A { void m() { int x; } }", 2, 26);
        faultAt("a member's exp", "class A { int f() = 1; }", 2, 18);
        faultAt("a method's type", "class A { static f() { } }", 2, 18);
        faultAt("static twice", "class A { static static int f; }", 2, 17);
        faultAt("a param's exp", "class A { void m(int a = 1) { } }", 2, 23);
        faultAt("nothing but classes", "class A { } int f;", 2, 12);
        faultAt("class within a class", "class A { class B { } }", 2, 10);
        faultAt("S in a class", "class A { print 1; }", 2, 10);
        faultAt("else without if", "class A { void m() { while (a) b(); else c(); } }", 2, 36);
        faultAt("two else", "class A { void m() { if (a) b(); else c(); else d(); } }", 2, 43);
        faultAt("extends twice", "class A extends B, C { }", 2, 17);
        faultAt("extends a WORD", "class A extends int { }", 2, 16);
    }

    /** What stood there before does not count: each text ends where it ends. */
    private static void endsOfTexts() {
        String text = "class A extends B { static int f = a.b(1, x) + new A().c; bool g = !(1 <= 2) || -3 != 4; "
            + "void m(int p, B q) { { } B b = this; if (p == read) { while (true) return; } else print 1 % 2; // x\n"
            + "b.c = null; m(1, 2); } } class B { }";
        House used = new House();
        used.load(0, text);
        for (int n = text.length(); n >= 0; n--) {
            House x = new House();
            String want = x.told(x.load(0, text.substring(0, n)));
            used.load(0, text);
            used.load(0, text.substring(0, n).replace(' ', '/'));
            used.load(0, text);
            House.due("the first " + n + " bytes", used.told(used.load(0, text.substring(0, n))), want);
            boolean isEnd = n < text.length() && " (){};,".indexOf(text.charAt(n)) >= 0
                && !text.substring(0, n).endsWith("//") && n != text.indexOf("// x") + 4;
            if (isEnd && n > 0 && n < text.indexOf("class B") - 1) {
                House.due("the first " + n + " bytes", want, "-12@" + n);
            }
        }
        // Letters, digits, signs and a remark that went on there before.
        String[][] cut = {{"class Abcdefghijklmn", "class A", "-12@7"}, {"class A { int f = 1234567890", "class A { int f = 1", "-12@19"},
            {"class A { bool f = 1 ==", "class A { bool f = 1 =", "-12@21"}, {"class A { } // x", "class A { } /", "-12@12"},
            {"class A { bool f = 1 <= 2; }", "class A { bool f = 1 <", "-12@22"}, {"class A { bool f = a && b; }", "class A { bool f = a &", "-11@21"}};
        for (String[] c : cut) {
            House x = new House();
            for (int i = 0; i < 4; i++) {
                x.load(0, c[0]);
                House.due(c[1] + " behind " + c[0], x.told(x.load(0, c[1])), c[2]);
            }
        }
    }

    // Too many.

    private static void fullFiles() {
        // 10 tokens of a class with a method, 3 of each call, 2 of each block.
        House x = new House();
        for (int f = 0; f < 4; f++) {
            String text = "class A" + f + " { void f() { } void m() { " + House.times(145, "f(); ") + "} }";
            House.due("597 tokens", x.load(f, text), 4 + 6 + 6 + 580);
        }
        for (int f = 0; f < 4; f++) {
            String text = "class A" + f + " { void f() { } void m() { " + House.times(146, "f(); ") + "} }";
            House.due("600 tokens", x.load(f, text), 600);
            House.due("601 tokens", x.load(f, text + "class"), -13);
            House.due("at the 601st", x.h.place(), 10000 * f + text.length());
            House.due("601 tokens", x.load(f, text + "}"), -12);
            House.due("601 tokens and an end that is none", x.load(f, text + " #"), -11);
            House.due("nothing behind the 601st is read", x.load(f, text + "class ? # {{{"), -13);
        }
        House.due("judge", x.h.judge(), 0);
        House.due("methods", x.h.count(2), 8);
        int f3 = x.text(3).indexOf("f()");
        House.due("uses in the last FILE", x.h.uses(30000 + f3), 147);
        House.due("rename all", x.ask(0, 30000 + f3, 0, "g"), 0);
        House.due("EDITS", x.h.edits(), 147);
        House.due("apply", x.h.apply(), 1);
        House.due("uses", x.h.uses(30000 + f3), 147);
        House.due("alike", x.h.alike(100), 1000);
        House.due("more than a FILE can have", x.load(0, "class A0 { void m() { " + House.times(150, "f(); ") + "} }"), -13);
    }

    private static String numbered(String head, int n, String tail) {
        StringBuilder s = new StringBuilder();
        for (int i = 0; i < n; i++) {
            s.append(head).append(i).append(tail);
        }
        return s.toString();
    }

    private static void fullClasses() {
        // Eight classes of 24 members each, in four FILES.
        House x = new House();
        for (int f = 0; f < 4; f++) {
            String two = "class A" + f + " { " + numbered("static int a", 24, " = 1; ") + "} class B" + f + " { "
                + numbered("int m", 24, "() { return 1; } ") + "}";
            House.due("two classes", x.load(f, two) > 0 ? 1 : 0, 1);
            House.due("25 members", x.load(f, two.replace("} class", "int b; } class")), -13);
            House.due("at its NAME", x.h.place(), 10000 * f + two.indexOf("} class") + 4);
            House.due("a WORD in its place", x.load(f, two.replace("} class", "int new; } class")), -12);
        }
        House.due("judge", x.h.judge(), 0);
        House.due("classes", x.h.count(0), 8);
        House.due("fields", x.h.count(1), 96);
        House.due("methods", x.h.count(2), 96);
        House.due("the last method", x.h.told(2, 95), 30000 + x.text(3).indexOf("m23"));
        House.due("none behind", x.h.told(2, 96), -1);
        House.due("the last class", x.h.told(0, 7), 30000 + x.text(3).indexOf("B3"));
        House.due("none behind", x.h.told(0, 8), -1);
        // A ninth one, of the other FILES counted first, wherever it stands.
        for (int f = 0; f < 4; f++) {
            String one = "class A" + f + " { }";
            House.due("three classes", x.load(f, one + " class B" + f + " { } class C { }"), -13);
            House.due("at its NAME", x.h.place(), 10000 * f + 32);
            House.due("one class", x.load(f, one), 4);
            House.due("two classes again", x.load(f, one + " class B" + f + " { }"), 8);
        }
        House.due("a WORD in the place of its NAME", x.load(0, "class A { } class B { } class this { }"), -12);
        House.due("a FAULT behind it", x.load(0, "class A { } class B { } class C ?"), -13);
        House.due("a FAULT ahead of it", x.load(0, "class A { } class B ? class C { }"), -11);
        String params = "class A { void m(int a, int b, int c, int d, int e, int f, int g, int h";
        fine("8 params", params + ") { } }", 4 + 4 + 23 + 2);
        faultAt("9 params", params + ", int i) { } }", 3, params.length() + 6);
        faultAt("9 types", params + ", int) { } }", 2, params.length() + 5);
        faultAt("9 params, none of a type", params + ", i) { } }", 2, params.length() + 3);
        fine("arguments are not counted", "class A { int f = g(1, 2, 3, 4, 5, 6, 7, 8, 9, 10); }", 7 + 2 + 20 + 1);
    }

    /** Of one token the least, but 3 of what stands within too many others ahead of 2. */
    private static void twoFaultsOfOneToken() {
        String deep = House.times(20, "(") + "-";
        exp("1 ahead of 3", deep + "?", 1, 21);
        exp("1 ahead of 3", deep + "abcdefghijklm", 1, 21);
        exp("3 ahead of 2", deep + "*", 3, 21);
        exp("3 ahead of 2", deep + "class", 3, 21);
        exp("3 ahead of 2", deep + "{", 3, 21);
        exp("2 of a )", deep + ")", 2, 21);
        exp("2 of a }", deep + "}", 2, 21);
        faultAt("3 of the end", "class A { int f = " + deep, 3, 39);
        // The NAME of a 25th member that is no NAME is 2; the 601st token that can't stand, too.
        String full = "class A { " + numbered("int a", 24, "; ");
        faultAt("25th member", full + "int x; }", 3, full.length() + 4);
        faultAt("25th member", full + "int 1; }", 2, full.length() + 4);
        faultAt("25th member", full + "int ?; }", 1, full.length() + 4);
        faultAt("25th member", full + "int abcdefghijklm; }", 1, full.length() + 4);
        faultAt("25th member", full + "static void x() { } }", 3, full.length() + 12);
        faultAt("25th member without a type", full + "x; }", 2, full.length() + 1);
    }

    // Too deep.

    private static void body(String what, String text, int fault, int at) {
        faultAt(what, "class A { void m() { " + text, fault, 21 + at);
    }

    private static void nests() {
        // In a method's block: that is one, so 19 more are fine, whatever they are.
        String[] opens = {"(", "-", "!", "f(", "a.f(", "-f(", "f(-"};
        int[] each = {1, 1, 1, 1, 1, 2, 2};
        for (int i = 0; i < opens.length; i++) {
            for (int deep = 1; deep <= 24; deep++) {
                String s = "x = ";
                int nests = 1;
                while (nests + each[i] <= deep) {
                    s += opens[i];
                    nests += each[i];
                }
                body(opens[i] + " " + nests, s + "*", nests > 20 ? 3 : 2, nests > 20 ? firstBeyond(s) : s.length());
            }
        }
        body("blocks", House.times(19, "{") + "*", 2, 19);
        body("blocks", House.times(20, "{") + "*", 3, 20);
        body("an empty one", House.times(20, "{") + "}" + "*", 2, 21);
        body("a ) in one", House.times(20, "{") + ")", 2, 20);
        // A block of an if, else or while counts twice: for its S and for itself.
        body("if and block", House.times(9, "if (a) {") + "if (a) *", 2, 9 * 8 + 7);
        body("if and block", House.times(9, "if (a) {") + "if (a) { *", 3, 9 * 8 + 9);
        body("while and block", House.times(9, "while (a) {") + "while (a) { *", 3, 9 * 11 + 12);
        body("else and block", House.times(9, "if (a) {} else {") + "if (a) {} else { *", 3, 9 * 16 + 17);
        body("else and block", House.times(9, "if (a) {} else {") + "{ { *", 3, 9 * 16 + 4);
        body("else if", House.times(19, "if (a) b(); else ") + "*", 2, 19 * 17);
        body("else if", House.times(19, "if (a) b(); else ") + "if (*", 3, 19 * 17 + 4);
        body("else and an exp", House.times(19, "if (a) b(); else ") + "x = (*", 3, 19 * 17 + 5);
        // The ( ) of if and while.
        body("( ) of an if", House.times(19, "{") + "if (*", 3, 23);
        body("( ) of an if", House.times(18, "{") + "if (*", 2, 22);
        body("( ) of an if within", House.times(18, "{") + "if ((*", 3, 23);
        body("( ) of an if", House.times(19, "{") + "if ()", 2, 23);
        body("( ) of a while", House.times(19, "{") + "while (a", 3, 26);
        body("what is over is none", House.times(18, "{") + "if (a) b(); if (a) b(); while (a) b(); { } c(1); *", 2, 18 + 49);
        // Those of params and new are none.
        body("new", House.times(19, "{") + "x = new A(*", 2, 29);
        fine("new", "class A { void m() { " + House.times(19, "{") + "x = new A();" + House.times(19, "}") + " } }", 10 + 38 + 7);
        faultAt("params", "class A { void m(*", 2, 17);
        // Of a field, 20 of them; args within what stands behind -.
        faultAt("a field", "class A { int f = " + House.times(20, "-") + "*", 2, 38);
        faultAt("a field", "class A { int f = " + House.times(20, "-") + "f(1", 3, 40);
        faultAt("a field", "class A { int f = " + House.times(19, "-") + "f(1 + *", 2, 43);
        fine("a field", "class A { int f = " + House.times(20, "-") + "f().g(); }", 6 + 20 + 7 + 2);
        // Left and right of operators there is none more.
        fine("operators", "class A { int f = " + House.times(20, "(") + "1" + House.times(20, "+ 1)") + House.times(100, "* 1") + "; }",
            6 + 20 + 1 + 60 + 200 + 2);
    }

    /** Where the token behind the 21st nest stands; the method's block is the first one. */
    private static int firstBeyond(String s) {
        int seen = 1;
        for (int i = 4; i < s.length(); i++) {
            char c = s.charAt(i);
            if (c == '(' || c == '-' || c == '!') {
                seen++;
                if (seen == 21) {
                    return i + 1;
                }
            }
        }
        return s.length();
    }
}
