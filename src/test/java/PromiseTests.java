/** For each promise of the document its ordinary answers, edges and errors in their order, worked out by hand. */
public final class PromiseTests extends Checks {
    private static void newObject() {
        TimeWishes x = new TimeWishes();
        for (int what = 0; what <= 8; what++) {
            due("1: count " + what + " of a new object", x.count(what), 0);
        }
        due("1: no wish", x.wish(0, 0), TimeWishes.UNKNOWN);
        due("1: no event", x.at(0), TimeWishes.NONE);
        due("1: no state to undo", x.undo(), TimeWishes.NONE);
        due("1: no snapshot", x.restore(), TimeWishes.NONE);
        due("1: the empty text ends too early", x.addWish(), -100);
        due("UNKNOWN", TimeWishes.UNKNOWN, -1);
        due("BAD_VALUE", TimeWishes.BAD_VALUE, -2);
        due("FULL", TimeWishes.FULL, -3);
        due("NOT_POSSIBLE", TimeWishes.NOT_POSSIBLE, -4);
        due("NONE", TimeWishes.NONE, -5);
    }

    private static void rewriting() {
        becomes("a", 1, "1");
        becomes("a", 62, "0");
        becomes("!a", 1, "0");
        becomes("!f", 31, "1");
        becomes("0", 63, "0");
        becomes("1", 0, "1");
        becomes("Xa", 0, "(>&a)");
        becomes("X(a&b)", 0, "(>&a&b)");
        becomes("X1", 0, ">");
        becomes("X0", 0, "0");
        becomes("Na", 0, "(.|a)");
        becomes("N(a|b)", 0, "(.|a|b)");
        becomes("N0", 0, ".");
        becomes("N1", 0, "1");
        becomes("aUb", 1, "(aUb)");
        becomes("aUb", 2, "1");
        becomes("aUb", 0, "0");
        becomes("aRb", 0, "0");
        becomes("aRb", 2, "(aRb)");
        becomes("aRb", 3, "1");
        becomes("XaUb", 0, "((XaUb)&>&a)");
        becomes("aUXb", 1, "((>&b)|(aUXb))");
        becomes("aRXb", 0, "((aRXb)&>&b)");
        becomes("XaRXb", 0, "(((>&a)|(XaRXb))&>&b)");
        becomes("Na&c|d&Nb", 12, "(.|a|b)");
        becomes("GXa", 0, "((0RXa)&>&a)");
        TimeWishes x = with("XXa", "NNa");
        events(x, 0, 0);
        due("what an event makes of > and X", parts(x, 0), "(>&a)");
        due("what an event makes of . and N", parts(x, 1), "(.|a)");
        x.event(0);
        due("a at its time", parts(x, 0), "0");
        due("a is wished of an event that is there", parts(x, 1), "0");
        x = with("(Xa|N0)&(Xb|N0)", "X1&N0", "X1|N0");
        x.event(0);
        due("an any with . in it", parts(x, 0), "((>&a)|.) ((>&b)|.)");
        due("> and . in parts of their own", parts(x, 1), ". >");
        due("> or . in an any", parts(x, 2), "1");
        x.event(2);
        due("> becomes 1 and . becomes 0", parts(x, 1), "0 1");
        due("what is left of a and b", parts(x, 0), "0 1");
        becomes("(N0|b)&Xb|N(a&X1)", 0, "((X1&a)|.)");
    }

    private static void event() {
        TimeWishes x = with("a", "!a", "Ga", "Fa", "Xa");
        due("2: those that get a verdict", x.event(1), 3);
        due("2: fulfilled", x.wish(0, 0), 1);
        due("2: broken", x.wish(1, 0), 0);
        due("2: open", x.wish(2, 0), 2);
        due("2: fulfilled, too", x.wish(3, 0), 1);
        due("2: the next event decides X", x.event(0), 2);
        due("2: a verdict stays", x.wish(0, 0), 1);
        due("2: nobody is left", x.event(63), 0);
        due("2: it is recorded", x.count(7), 4);
        due("2: below the sets", x.event(-1), TimeWishes.BAD_VALUE);
        due("2: above the sets", x.event(64), TimeWishes.BAD_VALUE);
        due("2: an error changes nothing", x.count(0), 3);
        x.end();
        due("2: a bad set is checked first", x.event(64), TimeWishes.BAD_VALUE);
        due("2: behind the end", x.event(0), TimeWishes.NOT_POSSIBLE);
        x = with("Ga");
        for (int i = 0; i < 40; i++) {
            due("2: event " + i, x.event(1), 0);
        }
        due("2: the 41st", x.event(1), TimeWishes.FULL);
        due("2: a bad set though it is full", x.event(99), TimeWishes.BAD_VALUE);
        x.end();
        due("2: the end is checked ahead of the room", x.event(1), TimeWishes.NOT_POSSIBLE);
        x = with("a&Gb");
        x.event(0);
        due("2: parts of a broken wish", parts(x, 0), "0 0");
        x = with("a&GXb");
        x.event(0);
        x.event(0);
        due("2: parts go on to be rewritten behind the verdict", parts(x, 0), "0 0");
        x = with("Ga", "a");
        x.removeWish(1);
        due("2: a removed wish gets no verdict", x.event(0), 1);
    }

    /** A part that grows with each event, and stays at 120 or below just once more. */
    private static void tooLargeParts() {
        TimeWishes x = new TimeWishes();
        StringBuilder deep = new StringBuilder();
        for (int i = 0; i < 59; i++) {
            deep.append('G');
        }
        due("2: 59 times G", add(x, deep + "a"), 0);
        due("2: the greatest size of a text", x.part(0, 0, 0), 119);
        due("2: Gs in one another in one all", x.event(1), TimeWishes.FULL);
        due("2: nothing happened", x.count(0) + x.at(0), -5);
        due("2: but it would stay open", x.would(0, 1), 2);
        due("2: and would be broken", x.would(0, 0), 0);
        due("2: which may happen", x.event(0), 1);
        due("2: each sign may be to blame though that would be too large", x.wish(0, 5), 1);
        x = new TimeWishes();
        StringBuilder nexts = new StringBuilder("XG");
        for (int i = 0; i < 56; i++) {
            nexts.append('X');
        }
        add(x, nexts + "a");
        due("2: a next in front", x.part(0, 0, 0), 60);
        due("2: what is below a next is not rewritten", x.event(0), 0);
        due("2: 1 for the all, 1 for >, 59 for (0RX..a)", x.part(0, 0, 0), 61);
        due("2: behind the second event", x.event(0), 0);
        due("2: 57 more for > and X..a with one X less", x.part(0, 0, 0), 117);
        due("2: the next one would be too large", x.event(0), TimeWishes.FULL);
        due("2: the wish is as it was", x.part(0, 0, 0) + x.wish(0, 0), 119);
        x.removeWish(0);
        due("2: a removed wish needs no room", x.event(0), 0);
        sizesOf120();
    }

    /** GX..a with k times X has the size k + 3; an event makes ((0RX..a)&>&X..a) of it, of size 2k + 5. */
    private static void sizesOf120() {
        StringBuilder text = new StringBuilder("G");
        for (int i = 0; i < 55; i++) {
            text.append('X');
        }
        TimeWishes x = with(text + "a", "XXc", "XXXc");
        due("2: G and 55 X", x.part(0, 0, 0), 58);
        due("2: any of it and XXc", x.join(0, 1, true), 3);
        due("2: of size 62", x.part(3, 0, 0), 62);
        due("2: a size of 120 has room", x.event(0), 0);
        due("2: the size of the one", x.part(0, 0, 0), 115);
        due("2: the size of both", x.part(3, 0, 0), 120);
        x.undo();
        due("2: any of it and XXXc", x.join(0, 2, true), 4);
        due("2: of size 63", x.part(4, 0, 0), 63);
        due("2: a size of 121 has no room", x.event(0), TimeWishes.FULL);
        due("2: no event came", x.count(0), 0);
        due("2: no wish was rewritten", x.part(0, 0, 0) + x.part(3, 0, 0), 120);
        due("2: would() needs no room", x.would(4, 0), 2);
        due("2: nor does bears()", x.bears(4, 0), 64);
        x.removeWish(4);
        due("2: without it there is room", x.event(0), 0);
        x = with(text + "a");
        x.end();
        due("2: the end makes parts small", x.part(0, 0, 0), 1);
        x = with(text + "a&b");
        due("2: broken by the other part", x.event(0), 1);
        due("2: a broken wish is rewritten", x.wish(0, 0) + x.part(0, 0, 0), 115);
        due("2: and needs room, too", x.event(0), TimeWishes.FULL);
    }

    private static void end() {
        TimeWishes x = with("Ga", "Fa", "Na", "Xa", "!a", "a", "1", "0");
        due("3: how many are fulfilled by it", x.end(), 3);
        due("3: as long as", x.wish(0, 0), 1);
        due("3: until", x.wish(1, 0), 0);
        due("3: next if there is one", x.wish(2, 0), 1);
        due("3: next", x.wish(3, 0), 0);
        due("3: the opposite of a sign", x.wish(4, 0), 1);
        due("3: a sign", x.wish(5, 0), 0);
        due("3: not by an event", x.wish(5, 4), TimeWishes.NONE);
        due("3: no sign is to blame", x.wish(5, 5), 0);
        due("3: parts become 1", parts(x, 0), "1");
        due("3: parts become 0", parts(x, 1), "0");
        due("3: it is ended", x.count(1), 1);
        due("3: it is recorded", x.count(7), 4);
        due("3: once", x.end(), TimeWishes.NOT_POSSIBLE);
        due("3: the error is not recorded", x.undo(), 3);
        due("3: it can be undone", x.count(1), 0);
        x = with("Ga&Fb&Xc");
        due("3: one false part is enough", x.end(), 0);
        due("3: the parts", parts(x, 0), "1 0 0");
        x = with("a&GXb", "N0", "X1", "c&Na");
        events(x, 0);
        due("3: > and .", x.end(), 1);
        due("3: . is true", x.wish(1, 0), 1);
        due("3: > is false", x.wish(2, 0), 0);
        due("3: parts of a wish with a verdict stay", parts(x, 0), "((0RXb)&>&b) 0");
        due("3: all of them", parts(x, 3), "(.|a) 0");
        x = with("Xa|Nb", "(!a|b)&(a|!b)", "(!a|b)&c");
        due("3: any of them, all of them", x.end(), 2);
        due("3: the all has a false part", parts(x, 2), "1 0");
        x = with("Ga");
        x.removeWish(0);
        due("3: a removed wish is not counted", x.end(), 0);
    }

    private static void textsOfWishes() {
        reads("a", "a");
        reads("!a", "-a");
        reads("!!a", "a");
        reads("!1", "0");
        reads("!0", "1");
        reads("Ga", "(0Ra)");
        reads("Fa", "(1Ua)");
        reads("!Ga", "(1U-a)");
        reads("!Fa", "(0R-a)");
        reads("!Xa", "N-a");
        reads("!Na", "X-a");
        reads("!(aUb)", "(-aR-b)");
        reads("!(aRb)", "(-aU-b)");
        reads("!(a&b)", "(-a|-b)");
        reads("!(a|b)", "-a -b");
        reads("!(a|b&Xc)", "(-b|N-c) -a");
        reads("!XN!a", "NXa");
        reads("!aUb", "(-aUb)");
        reads("XaUb", "(XaUb)");
        reads("aUbUc", "(aU(bUc))");
        reads("aUbRc", "(aU(bRc))");
        reads("(aUb)Uc", "((aUb)Uc)");
        reads("aUb&cRd", "(aUb) (cRd)");
        reads("aU(b&c)Rd", "(aU((b&c)Rd))");
        reads("a|b&c", "((b&c)|a)");
        reads("(a|b)&c", "(a|b) c");
        reads("c&b&a", "a b c");
        reads("b|a|b", "(a|b)");
        reads("a|(b|c)|d", "(a|b|c|d)");
        reads("a&(b&(c&d))", "a b c d");
        reads("a|1", "1");
        reads("a&1", "a");
        reads("a&0", "0");
        reads("a|0", "a");
        reads("1&1", "1");
        reads("0|0", "0");
        reads("a&!a", "0");
        reads("a|!a", "1");
        reads("a|b&c&!b", "a");
        reads("(a&b)|(b&a)", "a b");
        reads("Xa&X!a", "X-a Xa");
        reads("GFa", "(0R(1Ua))");
        reads("((((a))))", "a");
        reads("((((a))))&(b)", "a b");
        reads("X(aUb)&Xc", "X(aUb) Xc");
        orders();
    }

    /** The order of the texts is that of the characters: & ( ) - . 0 1 > N R U X a .. f |. */
    private static void orders() {
        reads("f&e&d&c&b&a&Xa&Na", "Na Xa a b c d e f");
        reads("a&!b&(aUb)", "(aUb) -b a");
        reads("!b&!a", "-a -b");
        reads("(a|b)&(aUb)&(aRb)", "(aRb) (aUb) (a|b)");
        reads("c|a&b&d|a&b", "((a&b&d)|(a&b)|c)");
        reads("(a|b|c)&(a|b)", "(a|b) (a|b|c)");
        reads("(aUb)|(a&b)", "((a&b)|(aUb))");
        reads("(aUc)&(aUb)", "(aUb) (aUc)");
        reads("(aUX0)&(aUX1)&(aU!b)", "(aU-b) (aUX0) (aUX1)");
        reads("Xb&Xa&XXa&XNa&X!a&X(aUb)", "X(aUb) X-a XNa XXa Xa Xb");
        reads("(0Ub)&(1Ua)&((aUb)Uc)", "((aUb)Uc) (0Ub) (1Ua)");
        TimeWishes x = with("X(N0|a)&Xb");
        events(x, 0);
        due("> among others", parts(x, 0), "((N0|a)&>) (>&b)");
        x = with("N!a", "N(a&b)", "X0|N1", "XXa&Xb&XNb");
        events(x, 0);
        due("- stands ahead of .", parts(x, 0), "(-a|.)");
        due("( stands ahead of .", parts(x, 1), "((a&b)|.)");
        due("1 is all", parts(x, 2), "1");
        due("> stands ahead of the letters", parts(x, 3), "(>&Nb) (>&Xa) (>&b)");
    }

    private static void addWish() {
        textsOfWishes();
        TimeWishes x = new TimeWishes();
        due("4: the first one", add(x, "a&Fb"), 0);
        due("4: the text stays", x.count(8), 4);
        due("4: it can come again", x.addWish(), 1);
        due("4: it is recorded", x.count(7), 2);
        due("4: broken as it comes", x.wish(add(x, "0"), 0), 0);
        due("4: fulfilled as it comes", x.wish(add(x, "1"), 0), 1);
        due("4: not by an event", x.wish(2, 4) + x.wish(3, 4), -10);
        x = with("a", "b", "c", "d", "e", "f", "a");
        due("4: the eighth", add(x, "b"), 7);
        due("4: the ninth", add(x, "c"), TimeWishes.FULL);
        x.removeWish(3);
        due("4: removing makes no room", x.addWish(), TimeWishes.FULL);
        due("4: a fault is told first", add(x, "c|"), -102);
        x.end();
        due("4: a fault ahead of the end", x.addWish(), -102);
        due("4: the end ahead of the room", add(x, "c"), TimeWishes.NOT_POSSIBLE);
        x = new TimeWishes();
        due("4: eight parts", add(x, "a&b&c&d&e&f&Xa&Xb"), 0);
        due("4: there are eight", x.wish(0, 1), 8);
        due("4: nine parts", add(x, "a&b&c&d&e&f&Xa&Xb&Xc"), TimeWishes.FULL);
        due("4: nothing came", x.count(3), 1);
        due("4: nine that are eight", add(x, "a&b&c&d&e&f&Xa&Xb&a"), 1);
        due("4: an any of nine is one part", add(x, "a|b|c|d|e|f|Xa|Xb|Xc"), 2);
        due("4: one part", x.wish(2, 1), 1);
        faults();
    }

    private static void faults() {
        faultIs("", 0);
        faultIs("g", 0);
        faultIs("A", 0);
        faultIs("a ", 1);
        faultIs(" a", 0);
        faultIs("ab", 1);
        faultIs("a1", 1);
        faultIs("aX", 1);
        faultIs("a!b", 1);
        faultIs("a(b)", 1);
        faultIs("(a)b", 3);
        faultIs("a&", 2);
        faultIs("a|", 2);
        faultIs("aU", 2);
        faultIs("a&&b", 2);
        faultIs("a|&b", 2);
        faultIs("&a", 0);
        faultIs("U", 0);
        faultIs("!", 1);
        faultIs("XNGF!", 5);
        faultIs("(", 1);
        faultIs("(a", 2);
        faultIs("()", 1);
        faultIs("a)", 1);
        faultIs(")", 0);
        faultIs("(a))", 3);
        faultIs("((((a))))|(((((", 14);
        faultIs("(((((", 4);
        faultIs("((((a", 5);
        faultIs("-a", 0);
        faultIs(">", 0);
        faultIs(".", 0);
        faultIs("2", 0);
        faultIs("a\u0000", 1);
        faultIs("\u0161", 0);
        faultIs("\uffff", 0);
    }

    private static void join() {
        TimeWishes x = with("a&Xb", "c", "Ga");
        due("5: all of them", x.join(1, 0, false), 3);
        due("5: their parts", parts(x, 3), "Xb a c");
        due("5: any of them", x.join(0, 1, true), 4);
        due("5: as one part", parts(x, 4), "((Xb&a)|c)");
        due("5: both stay", x.count(2), 5);
        due("5: any of one and itself", x.join(0, 0, true), 5);
        due("5: is that one", parts(x, 5), "Xb a");
        x.event(3);
        due("5: as they are now", x.join(0, 2, false), 6);
        due("5: that is left of them", parts(x, 6), "(0Ra) > b");
        due("5: it came behind one event", x.wish(6, 8), 1);
        due("5: with a broken one", x.join(1, 2, false), 7);
        due("5: broken as it comes", x.wish(7, 0), 0);
        due("5: not by an event", x.wish(7, 4), TimeWishes.NONE);
        due("5: the ninth", x.join(0, 1, true), TimeWishes.FULL);
        due("5: unknown one", x.join(8, 1, true), TimeWishes.UNKNOWN);
        due("5: unknown other", x.join(1, -1, true), TimeWishes.UNKNOWN);
        x.removeWish(4);
        due("5: a removed one", x.join(4, 1, true), TimeWishes.UNKNOWN);
        due("5: a removed other", x.join(1, 4, false), TimeWishes.UNKNOWN);
        x.end();
        due("5: unknown ahead of the end", x.join(1, 4, false), TimeWishes.UNKNOWN);
        due("5: the end ahead of the room", x.join(1, 2, false), TimeWishes.NOT_POSSIBLE);
        x = with("a&b&c&d", "e&f&Xa&Xb", "Xc", "a|Xc");
        due("5: eight parts", x.join(0, 1, false), 4);
        due("5: nine parts", x.join(4, 2, false), TimeWishes.FULL);
        due("5: eight again", x.join(4, 0, false), 5);
        due("5: an any of an any", x.join(3, 2, true), 6);
        due("5: is opened", parts(x, 6), "(Xc|a)");
        due("5: what is recorded", x.count(7), 4);
        x = with("Xa&Xb");
        x.event(0);
        due("5: a part that is an all now is opened", x.join(0, 0, false), 1);
        due("5: into three parts", parts(x, 1), "> a b");
        x = with("a", "!a", "1");
        due("5: a sign and its opposite", x.join(0, 1, false), 3);
        due("5: are 0", parts(x, 3), "0");
        due("5: any of these", x.join(0, 1, true), 4);
        due("5: is fulfilled as it comes", x.wish(4, 0), 1);
        due("5: all of 1 and a", x.join(2, 0, false), 5);
        due("5: is a", parts(x, 5), "a");
        sizesOfJoined();
    }

    private static void sizesOfJoined() {
        TimeWishes x = new TimeWishes();
        StringBuilder gs = new StringBuilder();
        for (int i = 0; i < 29; i++) {
            gs.append('G');
        }
        add(x, gs + "a");
        add(x, gs + "b");
        due("5: 29 times G", x.wish(0, 7), 59);
        due("5: an any of 59 and 59", x.join(0, 1, true), 2);
        due("5: has size 119", x.wish(2, 7), 119);
        add(x, "c");
        due("5: and one more", x.join(2, 3, true), 4);
        due("5: has size 120", x.wish(4, 7), 120);
        add(x, "d");
        due("5: and one more is too large", x.join(4, 5, true), TimeWishes.FULL);
        due("5: nothing came", x.count(3), 6);
        due("5: an all has it in parts of their own", x.join(4, 5, false), 6);
        due("5: together they may be larger", x.wish(6, 7), 121);
    }

    private static void removeWish() {
        TimeWishes x = with("a", "b", "0");
        due("6: two are left", x.removeWish(1), 2);
        due("6: it is recorded", x.count(7), 4);
        due("6: it is gone", x.wish(1, 0), TimeWishes.UNKNOWN);
        due("6: once", x.removeWish(1), TimeWishes.UNKNOWN);
        due("6: never there", x.removeWish(3), TimeWishes.UNKNOWN);
        due("6: below the wishes", x.removeWish(-1), TimeWishes.UNKNOWN);
        due("6: numbers are not used again", add(x, "c"), 3);
        x.end();
        due("6: also behind the end", x.removeWish(0), 2);
        due("6: also of a verdict", x.removeWish(2), 1);
        due("6: so far", x.count(3), 4);
        x.undo();
        due("6: it can be undone", x.count(2), 2);
    }

    private static void typing() {
        TimeWishes x = new TimeWishes();
        for (int i = 1; i <= 60; i++) {
            due("7: character " + i, x.type(i == 60 ? 'a' : 'X'), i);
        }
        due("7: the 61st", x.type('a'), TimeWishes.FULL);
        due("7: the 61st changes nothing", x.count(8), 60);
        due("7: typing is not recorded", x.count(7), 0);
        due("7: all 60 are the text", x.addWish(), 0);
        due("7: and the wish", x.part(0, 0, 0), 60);
        due("8: the length that it had", x.clearText(), 60);
        due("8: none is left", x.count(8), 0);
        due("8: it had none", x.clearText(), 0);
        due("8: it is not recorded", x.count(7), 1);
        due("7: any character", x.type('\u0000'), 1);
        due("7: any character at all", x.type('\uffff'), 2);
        due("8: two", x.clearText(), 2);
        due("8: the text begins anew", add(x, "b"), 1);
        due("8: without what was there", parts(x, 1), "b");
        x.undo();
        due("9: the text is not undone", x.count(8), 1);
    }

    private static void history() {
        TimeWishes x = new TimeWishes();
        due("9: nothing to undo", x.undo(), TimeWishes.NONE);
        add(x, "Fa&Gb");
        events(x, 2, 3);
        due("9: three states", x.count(7), 3);
        due("9: two are left", x.undo(), 2);
        due("9: it is as it was", parts(x, 0), "(0Rb) (1Ua)");
        due("9: so are the events", x.count(0), 1);
        due("9: one is left", x.undo(), 1);
        due("9: none is left", x.undo(), 0);
        due("9: the wish didn't come", x.count(3), 0);
        due("9: nothing is left to undo", x.undo(), TimeWishes.NONE);
        for (int i = 1; i <= 6; i++) {
            x.event(i);
        }
        due("9: four states at most", x.count(7), 4);
        due("9: an error is not recorded", x.event(64) + x.count(7), 2);
        due("9: 3", x.undo(), 3);
        due("9: 2", x.undo(), 2);
        due("9: 1", x.undo(), 1);
        due("9: 0", x.undo(), 0);
        due("9: the oldest two are dropped", x.undo() + x.count(0), -3);
        due("9: the oldest ones are left", x.at(1), 2);
        snapshots();
    }

    private static void snapshots() {
        TimeWishes x = new TimeWishes();
        due("11: no snapshot", x.restore(), TimeWishes.NONE);
        due("11: NONE is not recorded", x.count(7), 0);
        due("10: of the empty state", x.keep(), 0);
        add(x, "Xa");
        x.event(5);
        due("11: the empty state again", x.restore(), 0);
        due("11: no wish", x.count(3), 0);
        due("11: it is recorded", x.count(7), 3);
        due("11: it can be undone", x.undo(), 2);
        due("11: the wish again", parts(x, 0), "(>&a)");
        due("10: behind one event", x.keep(), 1);
        due("10: it is not recorded", x.count(7), 2);
        x.event(0);
        x.removeWish(0);
        x.end();
        due("11: behind one event", x.restore(), 1);
        due("11: the run goes on", x.count(1), 0);
        due("11: the wish is as it was", parts(x, 0), "(>&a)");
        due("11: its event, too", x.at(0), 5);
        x.event(1);
        due("11: the snapshot stays", x.restore(), 1);
        due("11: and is not changed by what comes", parts(x, 0), "(>&a)");
        due("11: the text is not part of it", x.count(8), 2);
        x.end();
        due("10: of an ended run", x.keep(), 1);
        x.undo();
        due("11: ended again", x.restore() + x.count(1), 2);
        x.undo();
        due("9: the snapshot is not undone", x.restore() + x.count(1), 2);
    }

    private static void wish() {
        TimeWishes x = with("Ga&Fb&Xc", "Fb", "1");
        due("12: verdict", x.wish(0, 0), 2);
        due("12: parts", x.wish(0, 1), 3);
        due("12: broken ones", x.wish(0, 2), 0);
        due("12: fulfilled ones", x.wish(0, 3), 0);
        due("12: the time", x.wish(0, 4), TimeWishes.NONE);
        due("12: sizes", x.wish(0, 7), 8);
        due("12: if it ended now", x.wish(0, 6), 0);
        due("12: fulfilled as it came", x.wish(2, 6), 1);
        x.event(1);
        due("12: its parts", parts(x, 0), "(0Ra) (1Ub) (>&c)");
        due("12: sizes then", x.wish(0, 7), 9);
        x.event(3);
        due("12: the third part is broken", x.wish(0, 2), 4);
        due("12: the second is fulfilled", x.wish(0, 3), 2);
        due("12: broken", x.wish(0, 0), 0);
        due("12: at time 1", x.wish(0, 4), 1);
        due("12: c alone is to blame", x.wish(0, 5), 4);
        due("12: it stays broken", x.wish(0, 6), 0);
        due("12: the other one is fulfilled at time 1", x.wish(1, 4), 1);
        due("12: no blame", x.wish(1, 5), 0);
        due("12: it would stay so", x.wish(1, 6), 1);
        x.event(0);
        due("12: also the first part then", x.wish(0, 2), 5);
        due("12: the time stays", x.wish(0, 4), 1);
        due("12: the blame stays", x.wish(0, 5), 4);
        add(x, "Na");
        due("12: it came behind three events", x.wish(3, 8), 3);
        due("12: the others at first", x.wish(1, 8), 0);
        x.keep();
        due("12: that stays behind an act", x.restore() + x.wish(3, 8), 6);
        due("12: true if it ended now", x.wish(3, 6), 1);
        due("12: what below", x.wish(3, -1), TimeWishes.BAD_VALUE);
        due("12: what above", x.wish(3, 9), TimeWishes.BAD_VALUE);
        due("12: the wish is checked first", x.wish(4, 9), TimeWishes.UNKNOWN);
        due("12: below the wishes", x.wish(-1, 0), TimeWishes.UNKNOWN);
        blame();
    }

    private static void blame() {
        TimeWishes x = with("G(a|b)", "!a&!b", "!c|d", "G(a&b)", "a&XX0", "F0");
        x.event(4);
        due("12: either of two could have helped", x.wish(0, 5), 3);
        due("12: not broken", x.wish(1, 5), 0);
        due("12: one too many or one too few", x.wish(2, 5), 12);
        due("12: one alone would not have helped", x.wish(3, 5), 0);
        due("12: broken by the missing one", x.wish(4, 5), 1);
        x = with("!a&!b", "X0", "!a|!b");
        x.event(3);
        due("12: two parts, each broken by its own sign", x.wish(0, 5), 0);
        due("12: nothing could have helped", x.wish(1, 5), 0);
        due("12: broken whatever had been", x.wish(1, 0), 0);
        due("12: either one too many", x.wish(2, 5), 3);
        x = with("Xf");
        events(x, 32, 31);
        due("12: f is missing", x.wish(0, 5), 32);
        x = with("a");
        x.end();
        due("12: by the end nobody is to blame", x.wish(0, 5), 0);
    }

    private static void letter() {
        TimeWishes x = with("X!a&(bUc)");
        due("13: the first letter", x.letter(0, 0, 0), '(');
        due("13: the last letter", x.letter(0, 0, 4), ')');
        due("13: behind it", x.letter(0, 0, 5), TimeWishes.NONE);
        due("13: far behind it", x.letter(0, 0, Integer.MAX_VALUE), TimeWishes.NONE);
        due("13: the second part", text(x, 0, 1), "X-a");
        due("13: ahead of it", x.letter(0, 1, -1), TimeWishes.BAD_VALUE);
        due("13: no such part", x.letter(0, 2, -1), TimeWishes.UNKNOWN);
        due("13: below the parts", x.letter(0, -1, 0), TimeWishes.UNKNOWN);
        due("13: no such wish", x.letter(1, 0, -1), TimeWishes.UNKNOWN);
        x.event(2);
        due("13: as it is now", parts(x, 0), "(bUc) (-a&>)");
        x.removeWish(0);
        due("13: a removed wish", x.letter(0, 0, 0), TimeWishes.UNKNOWN);
    }

    private static void part() {
        TimeWishes x = with("(!aUXc)&f", "1", "Na|0");
        due("14: size", x.part(0, 0, 0), 4);
        due("14: length", x.part(0, 0, 1), 7);
        due("14: signs", x.part(0, 0, 2), 5);
        due("14: false at the end", x.part(0, 0, 3), 0);
        due("14: the second part", x.part(0, 1, 2), 32);
        due("14: no signs", x.part(1, 0, 2), 0);
        due("14: true at the end", x.part(1, 0, 3), 1);
        due("14: next if there is one", x.part(2, 0, 3), 1);
        due("14: what below", x.part(0, 0, -1), TimeWishes.BAD_VALUE);
        due("14: what above", x.part(0, 0, 4), TimeWishes.BAD_VALUE);
        due("14: no such part", x.part(0, 2, 4), TimeWishes.UNKNOWN);
        due("14: below the parts", x.part(0, -1, 0), TimeWishes.UNKNOWN);
        due("14: no such wish", x.part(3, 0, 4), TimeWishes.UNKNOWN);
        x.event(0);
        due("14: its text then", text(x, 0, 0), "((-aUXc)|(>&c))");
        due("14: size then", x.part(0, 0, 0), 8);
        due("14: length then", x.part(0, 0, 1), 15);
        due("14: . is true at the end", x.part(2, 0, 3), 1);
        x.removeWish(2);
        due("14: a removed wish", x.part(2, 0, 0), TimeWishes.UNKNOWN);
    }

    private static void would() {
        TimeWishes x = with("a|Xb", "0", "1", "a&!b");
        due("15: fulfilled", x.would(0, 1), 1);
        due("15: open", x.would(0, 0), 2);
        due("15: broken stays", x.would(1, 63), 0);
        due("15: fulfilled stays", x.would(2, 0), 1);
        due("15: all parts", x.would(3, 1), 1);
        due("15: not all parts", x.would(3, 3), 0);
        due("15: nothing happened", x.count(0), 0);
        due("15: nothing is recorded", x.count(7), 4);
        due("15: its text stays", parts(x, 0), "(Xb|a)");
        due("15: set below", x.would(0, -1), TimeWishes.BAD_VALUE);
        due("15: set above", x.would(1, 64), TimeWishes.BAD_VALUE);
        due("15: no such wish", x.would(4, 64), TimeWishes.UNKNOWN);
        for (int i = 0; i < 40; i++) {
            x.event(0);
        }
        due("15: behind 40 events, too", add(x, "c") + x.would(4, 4), 5);
        x.end();
        due("15: ended", x.would(0, 0), TimeWishes.NOT_POSSIBLE);
        due("15: bad ahead of ended", x.would(0, 64), TimeWishes.BAD_VALUE);
        due("15: unknown ahead of ended", x.would(5, 0), TimeWishes.UNKNOWN);
    }

    private static void bears() {
        TimeWishes x = with("b&(c|d)", "Xa|f", "0", "1", "X0");
        due("16: 16 sets with b and c or d: 8 + 4", x.bears(0, 0), 24);
        due("16: b and c", x.bears(0, 1), 6);
        due("16: which fulfil it", x.bears(0, 2), 24);
        due("16: the least of these", x.bears(0, 3), 6);
        due("16: all leave it open", x.bears(1, 0), 64);
        due("16: the least is none", x.bears(1, 1), 0);
        due("16: half of them fulfil it", x.bears(1, 2), 32);
        due("16: f alone", x.bears(1, 3), 32);
        due("16: broken", x.bears(2, 0), 0);
        due("16: none", x.bears(2, 1), TimeWishes.NONE);
        due("16: broken, none fulfils it", x.bears(2, 2), 0);
        due("16: none of these", x.bears(2, 3), TimeWishes.NONE);
        due("16: fulfilled", x.bears(3, 0), 64);
        due("16: the empty one", x.bears(3, 1), 0);
        due("16: all", x.bears(3, 2), 64);
        due("16: the empty one, too", x.bears(3, 3), 0);
        due("16: open, but lost", x.wish(4, 0) + x.bears(4, 0), 2);
        due("16: without any", x.bears(4, 1), TimeWishes.NONE);
        due("16: what below", x.bears(0, -1), TimeWishes.BAD_VALUE);
        due("16: what above", x.bears(0, 4), TimeWishes.BAD_VALUE);
        due("16: no such wish", x.bears(5, 4), TimeWishes.UNKNOWN);
        x.removeWish(1);
        due("16: a removed wish", x.bears(1, 0), TimeWishes.UNKNOWN);
        x.end();
        due("16: ended", x.bears(0, 0), TimeWishes.NOT_POSSIBLE);
        due("16: bad ahead of ended", x.bears(0, 4), TimeWishes.BAD_VALUE);
        due("16: unknown ahead of ended", x.bears(1, 0), TimeWishes.UNKNOWN);
    }

    private static void open() {
        TimeWishes x = with("a", "Xa&b", "1", "Fb", "0", "GFc");
        due("17: the greatest one", x.open(0), 5);
        due("17: the lowest number of several", x.open(1), 1);
        due("17: then the other one", x.open(2), 3);
        due("17: the least one", x.open(3), 0);
        due("17: not so many", x.open(4), TimeWishes.NONE);
        due("17: far behind", x.open(Integer.MAX_VALUE), TimeWishes.NONE);
        due("17: below", x.open(-1), TimeWishes.BAD_VALUE);
        x.removeWish(5);
        due("17: a removed one is not told", x.open(0), 1);
        x.event(3);
        due("17: those that are left", x.open(0), 1);
        due("17: all others have their verdict", x.open(1), TimeWishes.NONE);
        x.end();
        due("17: none is open", x.open(0), TimeWishes.NONE);
    }

    private static void at() {
        TimeWishes x = new TimeWishes();
        due("18: none yet", x.at(0), TimeWishes.NONE);
        due("18: below", x.at(-1), TimeWishes.BAD_VALUE);
        events(x, 0, 63, 17);
        due("18: the first", x.at(0), 0);
        due("18: the second", x.at(1), 63);
        due("18: the third", x.at(2), 17);
        due("18: behind them", x.at(3), TimeWishes.NONE);
        x.undo();
        due("18: undone", x.at(2), TimeWishes.NONE);
        for (int i = 2; i < 40; i++) {
            x.event(i);
        }
        due("18: the last one that can be", x.at(39), 39);
        due("18: behind the last one", x.at(40), TimeWishes.NONE);
        due("18: far behind", x.at(Integer.MAX_VALUE), TimeWishes.NONE);
        due("18: far below", x.at(Integer.MIN_VALUE), TimeWishes.BAD_VALUE);
    }

    private static void count() {
        TimeWishes x = with("a", "Ga", "Fa", "0", "1", "Xb", "1");
        x.removeWish(6);
        x.event(1);
        due("19: events", x.count(0), 1);
        due("19: not ended", x.count(1), 0);
        due("19: there", x.count(2), 6);
        due("19: so far", x.count(3), 7);
        due("19: open", x.count(4), 2);
        due("19: broken", x.count(5), 1);
        due("19: fulfilled, those that are there", x.count(6), 3);
        due("19: states", x.count(7), 4);
        due("19: text", x.count(8), 1);
        due("19: below", x.count(-1), TimeWishes.BAD_VALUE);
        due("19: above", x.count(9), TimeWishes.BAD_VALUE);
        x.end();
        due("19: ended", x.count(1), 1);
        due("19: none is open", x.count(4), 0);
        due("19: > and b is broken", x.count(5), 2);
        due("19: as long as is fulfilled", x.count(6), 4);
    }

    public static void main(String[] args) {
        newObject();
        rewriting();
        event();
        tooLargeParts();
        end();
        addWish();
        join();
        removeWish();
        typing();
        history();
        wish();
        letter();
        part();
        would();
        bears();
        open();
        at();
        count();
        System.out.println("PromiseTests: " + passedSoFar() + " passed, " + failedSoFar() + " failed");
        if (failedSoFar() > 0) {
            System.exit(1);
        }
    }
}
