/** The boundaries that the terms WISHES, TEXTS and HISTORY name. */
final class BoundaryOfWishes extends Sentences {

    static void run() {
        wishes();
        verdicts();
        blame();
        texts();
        things();
        opposites();
        faults();
        history();
        snapshot();
    }

    private static void wishes() {
        in("WISHES");
        sentence("There are at most 8 wishes ever, numbered from 0 in the order in which they came", () -> {
            TimeWishes x = new TimeWishes();
            for (int w = 0; w < 7; w++) {
                due("wish number " + (w + 1), add(x, "a"), w);
            }
            due("the eighth, joined", x.join(0, 1, true), 7);
            due("the ninth, added", x.addWish(), TimeWishes.FULL);
            due("the ninth, joined", x.join(0, 1, true), TimeWishes.FULL);
            due("wish -1", x.wish(-1, 0), TimeWishes.UNKNOWN);
            due("wish 0", x.wish(0, 0), 2);
            due("wish 7", x.wish(7, 0), 2);
            due("wish 8", x.wish(8, 0), TimeWishes.UNKNOWN);
            x.removeWish(7);
            due("ever, so removing makes no room", x.addWish(), TimeWishes.FULL);
            x.undo();
            x.undo();
            due("if the eighth never came, there is room", x.addWish(), 7);
        });
        sentence("a wish is there or was removed", () -> {
            TimeWishes x = with("a", "Ga", "Fa");
            x.removeWish(1);
            due("the one in front", x.wish(0, 0), 2);
            due("the removed one", x.wish(1, 0), TimeWishes.UNKNOWN);
            due("the one behind", x.wish(2, 0), 2);
            due("there", x.count(2), 2);
            due("so far", x.count(3), 3);
            due("the event gives no verdict to it", x.event(0), 1);
            x.undo();
            x.undo();
            due("there again", x.wish(1, 0), 2);
            due("so that the event does", x.event(0), 2);
        });
        sentence("A wish has 1 to 8 parts, each a form: those of the all that it is when it comes, in their order, or "
            + "it alone.", () -> {
            TimeWishes x = with("a|b|c|d|e|f|Xa|Xb|Xc", "f&!a", "a&b&c&d&e&f&Xa", "a&b&c&d&e&f&Xa&Xb", "1&1", "Xa");
            due("an any of nine is one part", x.wish(0, 1), 1);
            due("two parts", parts(x, 1), "-a f");
            due("seven parts", x.wish(2, 1), 7);
            due("eight parts", parts(x, 3), "Xa Xb a b c d e f");
            due("the seventh of seven", x.part(2, 6, 0), 1);
            due("the eighth of seven", x.part(2, 7, 0), TimeWishes.UNKNOWN);
            due("the eighth of eight", x.part(3, 7, 0), 1);
            due("the ninth of eight", x.part(3, 8, 0), TimeWishes.UNKNOWN);
            due("an all that is 1 is one part", parts(x, 4), "1");
            due("nine parts", add(x, "a&b&c&d&e&f&Xa&Xb&Xc"), TimeWishes.FULL);
            x.event(0);
            due("what becomes an all later stays one part", parts(x, 5), "(>&a)");
        });
        sentence("Each event rewrites each part of each wish that is there (also of one that has its verdict, which "
            + "stays).", () -> {
            TimeWishes x = with("a&Gb&XXc", "Gb");
            x.event(2);
            due("the parts behind the first event", parts(x, 0), "(0Rb) (>&Xc) 0");
            due("broken", x.wish(0, 0), 0);
            x.event(2);
            due("the parts go on", parts(x, 0), "(0Rb) (>&c) 0");
            x.removeWish(1);
            x.event(4);
            due("all of them", parts(x, 0), "0 1 0");
            due("still broken", x.wish(0, 0), 0);
            due("at the same time", x.wish(0, 4), 0);
            x.undo();
            x.undo();
            due("a wish that is there again is as it was", parts(x, 1), "(0Rb)");
        });
    }

    private static void verdicts() {
        sentence("A part is broken when it is 0, and fulfilled when it is 1.", () -> {
            TimeWishes x = with("a&!b&Xc&Gd", "X1&N0", "a&b&c&d&e&f&Xa&Xb");
            x.event(11);
            due("the parts", parts(x, 0), "(0Rd) 0 (>&c) 1");
            due("the second one is broken", x.wish(0, 2), 2);
            due("the fourth one is fulfilled", x.wish(0, 3), 8);
            due(". and > are not broken", x.wish(1, 2), 0);
            due("and not fulfilled", x.wish(1, 3), 0);
            due("the fifth, the seventh and the eighth of eight are broken", x.wish(2, 2), 16 + 64 + 128);
            due("the third, the fourth and the sixth are fulfilled", x.wish(2, 3), 4 + 8 + 32);
            x = with("0", "1");
            due("0 as it comes", x.wish(0, 2) * 10 + x.wish(0, 3), 10);
            due("1 as it comes", x.wish(1, 2) * 10 + x.wish(1, 3), 1);
        });
        sentence("The verdict of a wish is 0 (broken) as soon as any of its parts is broken; 1 (fulfilled) as soon as "
            + "all are fulfilled; 2 (open) otherwise.", () -> {
            due("none of three is fulfilled yet", verdict("Xa&Xb&Xc", 0), 2);
            due("two of three are fulfilled", verdict("Xa&b&c", 6), 2);
            due("all of three are fulfilled", verdict("a&b&c", 7), 1);
            due("the third one, too, later", verdict("Xa&b&c", 6, 1), 1);
            due("one of three is broken, two are fulfilled", verdict("a&b&c", 6), 0);
            due("one of three is broken, two are open", verdict("a&Xb&Xc", 0), 0);
            due("one of eight is broken", verdict("a&b&c&d&e&f&Xa&Xb", 31), 0);
            due("six of eight are fulfilled", verdict("a&b&c&d&e&f&Xa&Xb", 63), 2);
            due("seven of eight are fulfilled", verdict("a&b&c&d&e&f&Xa&XXb", 63, 1), 2);
            due("eight of eight are fulfilled", verdict("a&b&c&d&e&f&Xa&XXb", 63, 1, 2), 1);
            due("broken, though it is fulfilled then", verdict("a&Xb", 0, 2), 0);
            due("0 as it comes", verdict("0"), 0);
            due("1 as it comes", verdict("1"), 1);
            due("a as it comes", verdict("a"), 2);
            due("all of a and 0 as it comes", verdict("a&0"), 0);
            due("any of a and 1 as it comes", verdict("a|1"), 1);
        });
        sentence("When the run is ended, each open wish gets the verdict 1 if all its parts are true at the end, "
            + "otherwise 0; its parts that are false then are broken, the others fulfilled (and become 0 and "
            + "1).", () -> {
            TimeWishes x = with("Ga&Nb&!c", "Ga&Nb&c", "Fa&Xb&c", "a&GXb", "c|Xd", "Gb");
            events(x, 2);
            due("one of the two that are open is fulfilled", x.end(), 1);
            due("wish 0 has its verdict by the event", parts(x, 0), "0 1 (.|b)");
            due("wish 5 is fulfilled", x.wish(5, 0), 1);
            due("its part, too", parts(x, 5), "1");
            due("wish 3 was broken by the event: its parts stay", parts(x, 3), "((0RXb)&>&b) 0");
            x = with("Ga&Nb&!c", "Ga&Nb&c", "Fa&Xb&c", "Fa|Xb|c", "Ga|Xb");
            due("wishes 0 and 4", x.end(), 2);
            due("three of three parts are true", x.wish(0, 0), 1);
            due("none is broken", x.wish(0, 2) * 100 + x.wish(0, 3), 7);
            due("two of three parts are true", x.wish(1, 0), 0);
            due("their texts", parts(x, 1), "1 1 0");
            due("the third is broken, the others fulfilled", x.wish(1, 2) * 100 + x.wish(1, 3), 403);
            due("none of three parts is true", x.wish(2, 0), 0);
            due("all are broken", x.wish(2, 2) * 100 + x.wish(2, 3), 700);
            due("no form of the any is true", parts(x, 3), "0");
            due("one form of the any is true", parts(x, 4), "1");
            due("none is open", x.count(4), 0);
            x = with("Ga&Gb&Gc&Na&Nb&Nc&!a&!b", "Ga&Gb&Gc&Na&Nb&Nc&!a&f", "Fa&Fb&Fc&Xa&Xb&Xc&a&b");
            due("eight parts, all of them true", x.end(), 1);
            due("all eight are fulfilled", x.wish(0, 2) * 1000 + x.wish(0, 3), 255);
            due("the eighth is false", x.wish(1, 2) * 1000 + x.wish(1, 3), 128127);
            due("all eight are broken", x.wish(2, 2) * 1000 + x.wish(2, 3), 255000);
            due("each has size 1 then", x.wish(0, 7) * 100 + x.wish(2, 7), 808);
        });
    }

    private static void blame() {
        sentence("The event by which a wish was broken is the one at the latest time when its verdict became 0 (none, "
            + "if that was as it came, or by the end).", () -> {
            TimeWishes x = with("Ga", "0", "Fa", "GFa");
            events(x, 1, 1);
            due("open: none", x.wish(0, 4), TimeWishes.NONE);
            x.event(0);
            due("broken by the event at time 2", x.wish(0, 4), 2);
            x.event(0);
            due("the next event does not break it again", x.wish(0, 4), 2);
            due("as it came: none", x.wish(1, 4), TimeWishes.NONE);
            due("as it came: no sign", x.wish(1, 5), 0);
            x.end();
            due("by the end: none", x.wish(3, 4), TimeWishes.NONE);
            due("broken by the end", x.wish(3, 0), 0);
            due("by the end: no sign", x.wish(3, 5), 0);
            due("the end does not change it", x.wish(0, 4), 2);
            x = with("Ga");
            x.event(0);
            due("at time 0", x.wish(0, 4), 0);
            x.undo();
            due("which is undone", x.wish(0, 4), TimeWishes.NONE);
            events(x, 1, 0);
            due("at time 1 instead", x.wish(0, 4), 1);
            x = with("Ga");
            for (int i = 0; i < 39; i++) {
                x.event(1);
            }
            x.event(0);
            due("at the last time that there can be", x.wish(0, 4), 39);
        });
        sentence("A sign is to blame if it is so that with the same event, but this sign the other way (in it or "
            + "not), the wish would not have been broken by it.", () -> {
            due("a, not in it", blamed("a", 62), 1);
            due("a, in it", blamed("!a", 63), 1);
            due("f, not in it", blamed("f", 0), 32);
            due("f, in it", blamed("!f", 32), 32);
            due("each of six alone would have helped", blamed("a|b|c|d|e|f", 0), 63);
            due("each of six alone, in it", blamed("!a|!b|!c|!d|!e|!f", 63), 63);
            due("two at once would have helped", blamed("a&b", 0), 0);
            due("one of two", blamed("a&b", 2), 1);
            due("one of two that is in it", blamed("!a&!b", 1), 1);
            due("fulfilled with a the other way", blamed("Fa&a", 0), 1);
            due("open with a the other way", blamed("a&Xb", 0), 1);
            due("any event would have broken it", blamed("X0", 0), 0);
            due("a and d, but not b and c", blamed("a&(b|c)|d", 6), 9);
            due("a sign that it doesn't have", blamed("a", 60), 1);
            due("fulfilled: none", blamed("a", 1), 0);
            due("open: none", blamed("Xa", 0), 0);
        });
    }

    private static int blamed(String wish, int set) {
        TimeWishes x = with(wish);
        x.event(set);
        return x.wish(0, 5);
    }

    private static void texts() {
        in("TEXTS");
        sentence("There is a text of at most 60 characters, empty at first.", () -> {
            TimeWishes x = new TimeWishes();
            due("at first", x.count(8), 0);
            for (int n = 1; n <= 60; n++) {
                due("with " + n, x.type(n == 60 ? 'f' : 'X'), n);
            }
            due("the 61st", x.type('a'), TimeWishes.FULL);
            due("60 are there", x.count(8), 60);
            due("the wish of all 60", x.addWish(), 0);
            due("has the first and the last of them", text(x, 0, 0), times(59, "X") + "f");
            due("the text can be emptied", x.clearText(), 60);
            due("and typed anew", x.type('a'), 1);
        });
        sentence("A text of a wish is: one or more rows with \"|\" between two (any of them)", () -> {
            faultIs("", 0);
            reads("a", "a");
            reads("b|a", "(a|b)");
            reads("c|b|a", "(a|b|c)");
            faultIs("|", 0);
            faultIs("|a", 0);
            faultIs("a|", 2);
            faultIs("a||b", 2);
            reads(times(29, "a|") + "b", "(a|b)");
            faultIs(times(30, "a|"), 60);
        });
        sentence("a row is one or more items with \"&\" between two (all of them)", () -> {
            reads("a|b&a", "((a&b)|a)");
            reads("b&a", "a b");
            reads("c&b&a", "a b c");
            faultIs("&", 0);
            faultIs("&a", 0);
            faultIs("a&", 2);
            faultIs("a&&b", 2);
            faultIs("a|&b", 2);
            faultIs("a&|b", 2);
            reads(times(29, "a&") + "b", "a b");
            faultIs(times(30, "a&"), 60);
        });
        sentence("an item is a thing, or a thing, \"U\" or \"R\", and an item", () -> {
            reads("a", "a");
            reads("aUb", "(aUb)");
            reads("aRb", "(aRb)");
            reads("aUbRc", "(aU(bRc))");
            faultIs("U", 0);
            faultIs("R", 0);
            faultIs("Ua", 0);
            faultIs("aU", 2);
            faultIs("aR", 2);
            faultIs("aUUb", 2);
            faultIs("aU&b", 2);
            faultIs("aU|b", 2);
            faultIs("a&Ub", 2);
            faultIs("a(U)b", 1);
            TimeWishes x = with(times(29, "aU") + "a");
            due("thirty things", x.part(0, 0, 0), 59);
            due("its end", text(x, 0, 0).substring(84), "(aUa)" + times(28, ")"));
        });
    }

    private static void things() {
        sentence("a thing is a letter from a to f, 1, 0, or one of \"!\", \"X\", \"N\", \"G\" and \"F\" and a thing, "
            + "or \"(\", a text of a wish, \")\".", () -> {
            for (char c : "abcdef10".toCharArray()) {
                due("the thing " + c, with("" + c).count(3), 1);
                due("in brackets " + c, with("(" + c + ")").count(3), 1);
                due("behind X " + c, with("X" + c).count(3), 1);
            }
            for (char c : "!XNGF(".toCharArray()) {
                faultIs("" + c, 1);
                faultIs("a" + c, 1);
            }
            for (char c : "`gA/2MOWYHE\"-.>'*), ".toCharArray()) {
                faultIs("" + c, 0);
                faultIs("X" + c, 1);
            }
            faultIs("XX", 2);
            faultIs("()", 1);
            faultIs("(a", 2);
            faultIs("(a|)", 3);
            reads("(a|b)", "(a|b)");
            reads("X(((a)))", "Xa");
        });
        sentence("(So brackets and things with signs in front bind most, then U and R, which go to the right, then &, "
            + "then |.)", () -> {
            reads("XaUb", "(XaUb)");
            reads("X(aUb)", "X(aUb)");
            reads("!aU!b", "(-aU-b)");
            reads("GaUb", "((0Ra)Ub)");
            reads("aUbUc", "(aU(bUc))");
            reads("(aUb)Uc", "((aUb)Uc)");
            reads("aRbUc", "(aR(bUc))");
            reads("aUbRc", "(aU(bRc))");
            reads("aUb&c", "(aUb) c");
            reads("aU(b&c)", "(aU(b&c))");
            reads("a&bUc", "(bUc) a");
            reads("a&b|c", "((a&b)|c)");
            reads("a|b&c", "((b&c)|a)");
            reads("(a|b)&c", "(a|b) c");
            reads("aUb|cUd", "((aUb)|(cUd))");
            reads("X(a|b)&c", "X(a|b) c");
            reads("!(a|b)&c", "-a -b c");
        });
        sentence("G f is (0Rf); F f is (1Uf).", () -> {
            reads("Ga", "(0Ra)");
            reads("Fa", "(1Ua)");
            reads("G0", "(0R0)");
            reads("F1", "(1U1)");
            reads("GFa", "(0R(1Ua))");
            reads("F(a&b)", "(1U(a&b))");
        });
        sentence("Brackets go at most 4 deep.", () -> {
            reads("(((a)))", "a");
            reads("((((a))))", "a");
            faultIs("(((((a)))))", 4);
            reads("((((a))))&((((b))))", "a b");
            reads("(a)&(b)&(c)&(d)&(e)", "a b c d e");
            reads("((((a))|((b))))", "(a|b)");
            faultIs("((((a))|((((b", 10);
            faultIs("X(X(X(X(X(a", 9);
        });
    }

    private static void opposites() {
        sentence("! makes the opposite: of 1 and 0 the other one; of a sign its opposite, and the other way "
            + "round", () -> {
            reads("!1", "0");
            reads("!0", "1");
            reads("!a", "-a");
            reads("!f", "-f");
            reads("!!a", "a");
            reads("!!!f", "-f");
            TimeWishes x = with("Xa");
            x.event(1);
            add(x, "!1");
            add(x, "!0");
            add(x, "!b");
            due("also behind an event", parts(x, 1) + ", " + parts(x, 2) + ", " + parts(x, 3), "0, 1, -b");
        });
        sentence("of X f it is N of the opposite of f, of N f X of it; of (fUg) it is R of the opposites of f and g, "
            + "of (fRg) U of them; of an all it is any of the opposites of its forms, of an any all of them.", () -> {
            reads("!Xa", "N-a");
            reads("!Na", "X-a");
            reads("!XX1", "NN0");
            reads("!(aUb)", "(-aR-b)");
            reads("!(aRb)", "(-aU-b)");
            reads("!Ga", "(1U-a)");
            reads("!Fa", "(0R-a)");
            reads("!(a&b)", "(-a|-b)");
            reads("!(a|b)", "-a -b");
            reads("!(a&b&c)", "(-a|-b|-c)");
            reads("!(a&(b|!c))", "((-b&c)|-a)");
            reads("!(!a|Xb|!c)", "N-b a c");
            reads("!(a|(b&!b))", "-a");
            reads("!!(aUX(b|Nc))", "(aUX(Nc|b))");
        });
    }

    private static void faults() {
        sentence("The fault of the text is the index, from 0, of the first character that is not allowed at its place "
            + "(a fifth \"(\" in one another, too), or the length of the text if it ends too early (the empty text "
            + "does).", () -> {
            faultIs("", 0);
            faultIs("g", 0);
            faultIs("ga", 0);
            faultIs("ag", 1);
            faultIs("gg", 0);
            faultIs("a&b)", 3);
            faultIs("a&(b)c", 5);
            faultIs("(((((", 4);
            faultIs("((((", 4);
            faultIs("(((", 3);
            faultIs("((((a", 5);
            faultIs("((((a)", 6);
            faultIs("((((a)))", 8);
            faultIs("((((a)))))", 9);
            faultIs(times(59, "X"), 59);
            faultIs(times(60, "X"), 60);
            faultIs(times(59, "X") + "g", 59);
            faultIs(times(58, "X") + "a(", 59);
            due("a text of 60 without a fault", with(times(59, "X") + "a").count(3), 1);
            due("a text of 60 with brackets that end", with("(" + times(57, "X") + "a)").count(3), 1);
            faultIs("(" + times(58, "X") + "a", 60);
        });
        sentence("the first character that is not allowed at its place", () -> {
            everyCharacter("", "abcdef10", "!XNGF(");
            everyCharacter("a", "", "UR&|");
            everyCharacter("(a", ")", "UR&|");
            everyCharacter("((((", "", "abcdef10!XNGF");
        });
    }

    /** Types each character there is behind the beginning: with some it is whole, with others it ends too early. */
    private static void everyCharacter(String beginning, String whole, String early) {
        int wrong = 0;
        TimeWishes x = new TimeWishes();
        for (int code = 0; code <= 0xffff; code++) {
            char c = (char) code;
            if (whole.indexOf(c) >= 0 || code % 60 == 0) {
                x = new TimeWishes();
            }
            int length = beginning.length();
            int answer = add(x, beginning + c);
            int want = whole.indexOf(c) >= 0 ? 0 : -100 - length - (early.indexOf(c) >= 0 ? 1 : 0);
            if (answer != want) {
                wrong++;
                due("character " + code + " behind \"" + beginning + "\"", answer, want);
            }
        }
        due("characters that are told wrongly behind \"" + beginning + "\"", wrong, 0);
    }

    private static void history() {
        in("HISTORY");
        sentence("A history of at most 4 states is kept; when one more is recorded, the oldest one is dropped", () -> {
            TimeWishes x = new TimeWishes();
            for (int n = 1; n <= 6; n++) {
                x.event(n);
                due("states behind act " + n, x.count(7), n < 4 ? n : 4);
            }
            for (int left = 3; left >= 0; left--) {
                due("states that are left", x.undo(), left);
                due("events that are left", x.count(0), left + 2);
            }
            due("the two oldest states were dropped", x.undo(), TimeWishes.NONE);
            due("so two events stay", x.count(0) * 100 + x.at(1), 202);
            x = behindEvents(5);
            x.undo();
            x.event(9);
            due("five acts, one undone, and one more", x.count(7), 4);
            for (int left = 3; left >= 0; left--) {
                due("each of the four states is left", x.undo(), left);
                due("with its events", x.count(0), left + 1);
            }
            due("the oldest one is as it was", digest(x), "1,0,0,0,0,0,0,0,0; 0");
            x = withEight();
            due("eight acts and one that is refused", x.join(0, 1, true), TimeWishes.FULL);
            for (int left = 3; left >= 0; left--) {
                due("each of the four states is left", x.undo(), left);
            }
            due("the oldest one is as it was", digest(x), "0,0,4,4,4,0,0,0,2;; 2 a; 2 b; 2 c; 2 d");
            x = with("1", "0", "1", "Gb", "F" + times(56, "X") + "a");
            x.event(2);
            due("six acts and one that has no room", x.event(0), TimeWishes.FULL);
            for (int left = 3; left >= 0; left--) {
                due("each of the four states is left", x.undo(), left);
            }
            due("the oldest one is as it was", digest(x), "0,0,2,2,0,1,1,0,58;; 1 1; 0 0");
            x = behindEvents(4);
            for (int left = 3; left >= 0; left--) {
                due("of four acts none was dropped", x.undo(), left);
            }
            due("so none stays", x.count(0), 0);
            x = behindEvents(5);
            for (int left = 3; left >= 0; left--) {
                due("of five acts one was dropped", x.undo(), left);
            }
            due("so one stays", x.count(0), 1);
        });
        sentence("undo() removes and restores the latest one.", () -> {
            TimeWishes x = new TimeWishes();
            due("none is there", x.undo(), TimeWishes.NONE);
            x.event(9);
            due("one was there", x.undo(), 0);
            due("it is restored", x.count(0), 0);
            due("it is removed", x.undo(), TimeWishes.NONE);
            events(x, 9, 8, 7);
            due("the latest of three", x.undo() * 100 + x.at(1), 208);
            due("time 2 is gone", x.at(2), TimeWishes.NONE);
            x.event(6);
            due("an event instead", x.at(2), 6);
            due("the latest one then", x.undo() * 100 + x.count(0), 202);
        });
        recording();
    }

    private static void recording() {
        sentence("Each call of a method that is described as an act, and returns no error and not NONE, records the "
            + "state that was before it.", () -> {
            TimeWishes x = new TimeWishes();
            type(x, "a");
            due("typing and clearing are no acts", x.count(7), 0);
            x.keep();
            due("nor is keep()", x.count(7), 0);
            x.addWish();
            due("addWish() is", x.count(7), 1);
            x.event(64);
            x.join(0, 1, true);
            x.removeWish(1);
            add(x, "a&");
            due("errors are not recorded", x.count(7), 1);
            x.event(0);
            due("event() is an act", x.count(7), 2);
            x.join(0, 0, true);
            due("join() is", x.count(7), 3);
            x.undo();
            due("undo() is not", x.count(7), 2);
            x.removeWish(0);
            due("removeWish() is", x.count(7), 3);
            x.end();
            due("end() is", x.count(7), 4);
            x.undo();
            x.undo();
            x.restore();
            due("restore() is", x.count(7), 3);
            due("which is undone", x.undo() * 100 + x.count(0), 201);
            x.wish(0, 0);
            x.would(0, 0);
            x.bears(0, 0);
            x.open(0);
            due("what is told is none", x.count(7), 2);
            x = new TimeWishes();
            due("restore() that answers NONE", x.restore(), TimeWishes.NONE);
            due("is not recorded", x.count(7), 0);
        });
    }

    private static void snapshot() {
        sentence("There is one snapshot, empty at first. A state is everything but the text, the history and the "
            + "snapshot.", () -> {
            TimeWishes x = new TimeWishes();
            due("empty at first", x.restore(), TimeWishes.NONE);
            add(x, "Fa");
            x.event(2);
            x.keep();
            x.end();
            type(x, "abc");
            x.undo();
            due("the text stays behind undo()", x.count(8), 3);
            due("the end is undone", x.count(1), 0);
            x.removeWish(0);
            due("three states", x.count(7), 3);
            due("behind one event", x.restore(), 1);
            due("the text stays behind restore()", x.count(8), 3);
            due("the states, too, and one more is there", x.count(7), 4);
            due("the wish is there", parts(x, 0), "(1Ua)");
            due("and the event", x.at(0) * 10 + x.count(0), 21);
            x.event(8);
            due("a second one", x.keep(), 2);
            x.undo();
            due("the snapshot stays behind undo()", x.restore(), 2);
            due("it is the one that was kept last", x.at(1), 8);
            x.undo();
            x.undo();
            due("and stays", x.restore(), 2);
        });
    }
}
