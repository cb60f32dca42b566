/** The boundaries that the terms EVENTS, FORMS and REWRITING name, and those of an object's use. */
final class BoundaryOfForms extends Sentences {

    static void run() {
        in("What it is");
        sentence("An object is used for at most 512 calls after it has been made", BoundaryOfForms::calls);
        events();
        textsOfForms();
        rowsOfForms();
        puttingIntoAll();
        puttingIntoAny();
        rewriting();
        untilAndAsLongAs();
        atTheEnd();
    }

    private static void calls() {
        TimeWishes x = with("Fb");
        for (int i = 0; i < 125; i++) {
            due("an event", x.event(0), 0);
            due("the wish is open", x.wish(0, 0), 2);
            due("the event is undone", x.undo(), 1);
            due("it is no longer there", x.at(0), TimeWishes.NONE);
        }
        events(x, 0, 0, 0, 0, 1);
        due("call 510 still tells the wish", x.wish(0, 0), 2);
        due("call 511 still tells the states", x.count(7), 4);
        due("call 512 still lets an event happen", x.event(2), 1);
        x.wish(0, 0);
        x.event(Integer.MIN_VALUE);
        x.undo();
        dearCalls();
    }

    /** 56 calls make three parts of size 120; what is asked then 76 times has the same answers up to call 512. */
    private static void dearCalls() {
        String part = times(6, "G") + times(10, "X");
        TimeWishes x = with(part + "a&" + part + "b&" + part + "c");
        due("call 56", x.event(0), 0);
        for (int i = 0; i < 76; i++) {
            due("any event leaves it open", x.bears(0, 0), 64);
            due("also that with all signs", x.would(0, 63), 2);
            due("its third part is false at the end", x.part(0, 2, 3), 0);
            due("so it would be broken", x.wish(0, 6), 0);
            due("> and three times seven more forms have no room", x.join(0, 0, true), TimeWishes.FULL);
            due("its first letter", x.letter(0, 0, 0), 40);
        }
    }

    private static void events() {
        in("EVENTS");
        sentence("There are 6 signs, a to f, numbered from 0.", () -> {
            for (int s = 0; s < 6; s++) {
                String letter = String.valueOf((char) ('a' + s));
                due(letter + " with its own number", verdict(letter, 1 << s), 1);
                due(letter + " with all others", verdict(letter, 63 - (1 << s)), 0);
                due(letter + " as a set", with(letter).part(0, 0, 2), 1 << s);
            }
            faultIs("`", 0);
            faultIs("g", 0);
            due("a seventh sign", new TimeWishes().event(64), TimeWishes.BAD_VALUE);
        });
        sentence("A run is a row of at most 40 events so far, at times from 0", () -> {
            TimeWishes x = new TimeWishes();
            for (int i = 0; i < 40; i++) {
                due("event number " + (i + 1), x.event(63 - i), 0);
                due("events so far", x.count(0), i + 1);
            }
            due("event number 41", x.event(1), TimeWishes.FULL);
            due("events so far", x.count(0), 40);
            due("time -1", x.at(-1), TimeWishes.BAD_VALUE);
            due("time 0", x.at(0), 63);
            due("time 1", x.at(1), 62);
            due("time 38", x.at(38), 25);
            due("time 39", x.at(39), 24);
            due("time 40", x.at(40), TimeWishes.NONE);
        });
        sentence("an event is a set of signs (as bits)", () -> {
            due("no sign, so no a", verdict("a", 0), 0);
            due("no sign at all", verdict("!a&!b&!c&!d&!e&!f", 0), 1);
            due("the first sign alone", verdict("a&!b&!c&!d&!e&!f", 1), 1);
            due("the second sign alone", verdict("!a&b&!c&!d&!e&!f", 2), 1);
            due("the last sign alone", verdict("!a&!b&!c&!d&!e&f", 32), 1);
            due("all but the first one", verdict("!a&b&c&d&e&f", 62), 1);
            due("all but the last one", verdict("a&b&c&d&e&!f", 31), 1);
            due("all signs", verdict("a&b&c&d&e&f", 63), 1);
        });
        sentence("The run goes on until it is ended.", () -> {
            TimeWishes x = with("Ga");
            due("ahead of the end", x.event(1) + x.count(1), 0);
            due("the end", x.end(), 1);
            due("behind the end", x.event(1), TimeWishes.NOT_POSSIBLE);
            due("it is ended", x.count(1), 1);
            x.undo();
            due("the end undone", x.event(1) + x.count(1), 0);
            x = behindEvents(40);
            due("40 events are no end", x.count(1), 0);
            due("so that it can be ended", x.end(), 0);
            due("and is ended then", x.count(1), 1);
        });
    }

    private static void textsOfForms() {
        in("FORMS");
        sentence("true: 1; false: 0; there is one more event: >; the run is over: .", () -> {
            TimeWishes x = with("1", "0", "X1", "N0");
            x.event(0);
            due("true", parts(x, 0), "1");
            due("false", parts(x, 1), "0");
            due("there is one more event", parts(x, 2), ">");
            due("the run is over", parts(x, 3), ".");
        });
        sentence("a sign: its letter; the opposite of a sign: - and its letter", () -> {
            reads("a", "a");
            reads("f", "f");
            reads("!a", "-a");
            reads("!f", "-f");
        });
        sentence("next: X and the text of a form; next if there is one: N and the text of a form", () -> {
            reads("Xa", "Xa");
            reads("Na", "Na");
            reads("XN!f", "XN-f");
            reads("N(a|b)", "N(a|b)");
        });
        sentence("until, of two forms: (, the text of the first one, U, the text of the second one, ); as long as, of "
            + "two forms: (, the first one, R, the second one, )", () -> {
            reads("aUb", "(aUb)");
            reads("aRb", "(aRb)");
            reads("bUa", "(bUa)");
            reads("bRa", "(bRa)");
            reads("aUa", "(aUa)");
            reads("0R0", "(0R0)");
            reads("(aUb)R!c", "((aUb)R-c)");
        });
        sentence("all of two forms or more: (, their texts with & between two, )", () -> {
            reads("X(a)", "Xa");
            reads("X(a&b)", "X(a&b)");
            reads("X(a&b&c)", "X(a&b&c)");
            reads("X(a&b&c&d&e&f&!Xa&Xb)", "X(N-a&Xb&a&b&c&d&e&f)");
        });
        sentence("any of two forms or more: (, their texts with | between two, )", () -> {
            reads("(a)", "a");
            reads("(a|b)", "(a|b)");
            reads("(a|b|c)", "(a|b|c)");
            reads("a|b|c|d|e|f|Na|Xb|Xc", "(Na|Xb|Xc|a|b|c|d|e|f)");
        });
    }

    private static void rowsOfForms() {
        sentence("The forms of an all or an any are unlike, and stand in the order of their texts, by the codes of "
            + "the characters", () -> {
            reads("X(a&a)", "Xa");
            reads("X(a&b&a)", "X(a&b)");
            reads("a|a", "a");
            reads("(bUc)|a|(bUc)", "((bUc)|a)");
            reads("X(f&e&d&c&b&a)", "X(a&b&c&d&e&f)");
            reads("f|e|d|c|b|a", "(a|b|c|d|e|f)");
            reads("X(a&Xa&Na&!b&Fa)", "X((1Ua)&-b&Na&Xa&a)");
            reads("(aUb)|(aRb)|(a&b)", "((a&b)|(aRb)|(aUb))");
            reads("(aUb)|(aRc)|(a&d)", "((a&d)|(aRc)|(aUb))");
            reads("!f|!a|!b", "(-a|-b|-f)");
            reads("X(!b&!a&c&Xa)", "X(-a&-b&Xa&c)");
            reads("X((aUb)&(aRb)&(a|b))", "X((aRb)&(aUb)&(a|b))");
            reads("(1Ua)|(0Ua)|((aUb)Ua)|(!aUa)|(XaUa)|(NaUa)|(aUa)",
                "(((aUb)Ua)|(-aUa)|(0Ua)|(1Ua)|(NaUa)|(XaUa)|(aUa))");
            becomes("X(N!a&Xa&!b&a&(aUb))", 0, "((aUb)&-b&>&N-a&Xa&a)");
            becomes("N(N!a|Xa|!b|a|(aUb))", 0, "((aUb)|-b|.|N-a|Xa|a)");
        });
        sentence("a text that another one begins with ahead of it", () -> {
            reads("X(XXa&Xa&Xb)", "X(XXa&Xa&Xb)");
            reads("(a&b)|(a&b&c)", "((a&b&c)|(a&b))");
            reads("X((a|b)&(a|b|c))", "X((a|b)&(a|b|c))");
            reads("a|!b|b&c", "((b&c)|-b|a)");
            reads("X(a|c)|X(a&c)|Xa", "(X(a&c)|X(a|c)|Xa)");
        });
        sentence("The size of a form is how many forms it is made of, with itself (of a sign, its opposite, 1, 0, > "
            + "and . it is 1).", () -> {
            TimeWishes x = with("a", "!a", "1", "0", "X1", "N0");
            due("a sign", x.part(0, 0, 0), 1);
            due("its opposite", x.part(1, 0, 0), 1);
            due("1", x.part(2, 0, 0), 1);
            due("0", x.part(3, 0, 0), 1);
            due("X1", x.part(4, 0, 0), 2);
            due("N0", x.part(5, 0, 0), 2);
            x.event(0);
            due(">", x.part(4, 0, 0), 1);
            due(".", x.part(5, 0, 0), 1);
            x = with("aUb", "a|b", "X(a&b&c)", "Ga", "F!a", "((a&b)|c)Rd", "N(aU(b|!b|c))");
            due("(aUb)", x.part(0, 0, 0), 3);
            due("(a|b)", x.part(1, 0, 0), 3);
            due("X(a&b&c)", x.part(2, 0, 0), 5);
            due("(0Ra)", x.part(3, 0, 0), 3);
            due("(1U-a)", x.part(4, 0, 0), 3);
            due("(((a&b)|c)Rd)", x.part(5, 0, 0), 7);
            due("N(aU1)", x.part(6, 0, 0), 4);
        });
    }

    private static void puttingIntoAll() {
        sentence("To put forms into an all: forms of an all among them are put in, in its place", () -> {
            reads("X((a&c)&b)", "X(a&b&c)");
            reads("X(d&((c&b)&a))", "X(a&b&c&d)");
            reads("X((a|b)&c)", "X((a|b)&c)");
            reads("X((a&b)&(b&c))", "X(a&b&c)");
            reads("X(X(a&b)&c)", "X(X(a&b)&c)");
            becomes("X(a&b)", 0, "(>&a&b)");
        });
        sentence("1 is left out, a form that is there already, too", () -> {
            reads("X(a&1)", "Xa");
            reads("X(1&a&b)", "X(a&b)");
            reads("X(a&b&1&b)", "X(a&b)");
            reads("X(a&0)", "X0");
            reads("X(Xa&Xa)", "XXa");
            reads("X(Xa&Xb)", "X(Xa&Xb)");
            becomes("X1", 0, ">");
        });
        sentence("if 0 is among them, or both a sign and its opposite, or both > and ., it is 0", () -> {
            reads("X(a&0&b)", "X0");
            reads("X(a&!a)", "X0");
            reads("X(b&f&Xa&!f)", "X0");
            reads("X(!a&b)", "X(-a&b)");
            reads("X(a&!b&c)", "X(-b&a&c)");
            reads("X(Xa&X!a)", "X(X-a&Xa)");
            reads("X(Xa&!Xa)", "X(N-a&Xa)");
            becomes("(X1&N0)|b", 0, "0");
            becomes("(X1&Na)|b", 0, "((.|a)&>)");
            becomes("X1|b", 0, ">");
            becomes("(N0&Xa)|b", 0, "0");
            becomes("(N0&XXa&N1)|b", 0, "0");
            becomes("N0|b", 0, ".");
        });
        sentence("if there is none left, it is 1; if there is one, it is this one", () -> {
            reads("X(1&1)", "X1");
            reads("X(1&a)", "Xa");
            reads("X(1&a&b)", "X(a&b)");
            reads("X(a&a&a)", "Xa");
            becomes("(a&b&c)|d", 7, "1");
            becomes("(a&b&Nc)|d", 3, "(.|c)");
            becomes("(a&Nb&Nc)|d", 1, "((.|b)&(.|c))");
        });
    }

    private static void puttingIntoAny() {
        sentence("For an any likewise, with any in the place of all, and 0 and 1 exchanged.", () -> {
            reads("(a|c)|b", "(a|b|c)");
            reads("d|((c|b)|a)", "(a|b|c|d)");
            reads("(a&b)|c", "((a&b)|c)");
            reads("a|0", "a");
            reads("0|a|b|0", "(a|b)");
            reads("a|b|a", "(a|b)");
            reads("a|1|b", "1");
            reads("a|!a", "1");
            reads("b|f|Xa|!f", "1");
            reads("!a|b", "(-a|b)");
            reads("Xa|!Xa", "(N-a|Xa)");
            reads("0|0", "0");
            reads("Xa|0|Xa", "Xa");
            becomes("X1|N0", 0, "1");
            becomes("X1|N0|a", 0, "1");
            becomes("Xa|N0", 0, "((>&a)|.)");
            becomes("X1|Nb", 0, "1");
            becomes("a|b|c", 0, "0");
            becomes("a|b|Xc", 0, "(>&c)");
            becomes("a|X1|Xc", 0, "((>&c)|>)");
        });
    }

    private static void rewriting() {
        in("REWRITING");
        sentence("1 and 0 stay; > becomes 1; . becomes 0", () -> {
            TimeWishes x = with("1", "0", "X1", "N0");
            events(x, 63, 0);
            due("1 behind two events", parts(x, 0), "1");
            due("0 behind two events", parts(x, 1), "0");
            due("> behind one event", parts(x, 2), "1");
            due(". behind one event", parts(x, 3), "0");
            x.event(0);
            due("what > has become", parts(x, 2), "1");
            due("what . has become", parts(x, 3), "0");
        });
        sentence("a sign becomes 1 if it is in the event, otherwise 0; the opposite of a sign becomes 0 if it is in "
            + "the event, otherwise 1", () -> {
            for (int s = 0; s < 6; s++) {
                String letter = String.valueOf((char) ('a' + s));
                becomes(letter, 1 << s, "1");
                becomes(letter, 63, "1");
                becomes(letter, 63 - (1 << s), "0");
                becomes(letter, 0, "0");
                becomes("!" + letter, 1 << s, "0");
                becomes("!" + letter, 63, "0");
                becomes("!" + letter, 63 - (1 << s), "1");
                becomes("!" + letter, 0, "1");
            }
        });
        sentence("X f becomes all of > and f; N f becomes any of . and f (f itself is not rewritten)", () -> {
            becomes("Xa", 1, "(>&a)");
            becomes("Xa", 0, "(>&a)");
            becomes("Na", 1, "(.|a)");
            becomes("Na", 0, "(.|a)");
            becomes("XXa", 1, "(>&Xa)");
            becomes("NNa", 1, "(.|Na)");
            becomes("X(aUb)", 2, "((aUb)&>)");
            becomes("X1", 0, ">");
            becomes("X0", 0, "0");
            becomes("N1", 0, "1");
            becomes("N0", 0, ".");
            becomes("X(a&b)", 3, "(>&a&b)");
            becomes("X(a|b)", 3, "((a|b)&>)");
            becomes("N(a|b)", 3, "(.|a|b)");
            becomes("N(a&b)", 3, "((a&b)|.)");
        });
        sentence("an all becomes all of what its forms become, an any any of these", () -> {
            becomes("X1|(a&b)", 3, "1");
            becomes("Xc|(a&b)", 2, "(>&c)");
            becomes("(Xa&b)|(c&d)", 2, "(>&a)");
            becomes("(Xa&b)|(c&d)", 14, "1");
            becomes("(Xa&b)|(Xc&d)", 10, "((>&a)|(>&c))");
            becomes("a|b", 0, "0");
            becomes("a|b", 1, "1");
            becomes("a|b", 3, "1");
        });
    }

    private static void untilAndAsLongAs() {
        sentence("(fUg) becomes any of g', and all of f' and (fUg); (fRg) becomes all of g', and any of f' and (fRg); "
            + "f' and g' being what the event makes of f and g", () -> {
            becomes("aUb", 0, "0");
            becomes("aUb", 1, "(aUb)");
            becomes("aUb", 2, "1");
            becomes("aUb", 3, "1");
            becomes("aRb", 0, "0");
            becomes("aRb", 1, "0");
            becomes("aRb", 2, "(aRb)");
            becomes("aRb", 3, "1");
            becomes("1U0", 0, "(1U0)");
            becomes("0U1", 0, "1");
            becomes("0U0", 0, "0");
            becomes("0R1", 0, "(0R1)");
            becomes("1R0", 0, "0");
            becomes("1R1", 0, "1");
            becomes("XaUNb", 0, "(((XaUNb)&>&a)|.|b)");
            becomes("XaRNb", 0, "(((>&a)|(XaRNb))&(.|b))");
            becomes("(aUb)Uc", 1, "(((aUb)Uc)&(aUb))");
            becomes("aU(bUc)", 1, "(aU(bUc))");
            becomes("aU(bUc)", 3, "((aU(bUc))|(bUc))");
            TimeWishes x = with("Xa&(bUXc)");
            events(x, 0);
            due("f' is 0, so g' alone is left", parts(x, 0), "(>&c) (>&a)");
            x.event(4);
            due("what the next event makes of both", parts(x, 0), "1 0");
        });
    }

    private static void atTheEnd() {
        sentence("1, ., the opposite of a sign, N f and (fRg) are true; 0, >, a sign, X f and (fUg) are false", () -> {
            TimeWishes x = with("1", "0", "X1", "N0");
            x.event(0);
            due("1", x.part(0, 0, 3), 1);
            due("0", x.part(1, 0, 3), 0);
            due(">", x.part(2, 0, 3), 0);
            due(".", x.part(3, 0, 3), 1);
            x = with("!a", "!f", "Na", "N0", "aRb", "0R0", "1U1");
            for (int w = 0; w <= 5; w++) {
                due("true: " + parts(x, w), x.part(w, 0, 3), 1);
            }
            due("(1U1)", x.part(6, 0, 3), 0);
            x = with("a", "f", "Xa", "X1", "aUb", "X!a", "X(0R1)");
            for (int w = 0; w <= 6; w++) {
                due("false: " + parts(x, w), x.part(w, 0, 3), 0);
            }
        });
        sentence("an all is true if all of its forms are, an any if any is.", () -> {
            TimeWishes x = with("(!a&!b)|c", "(!a&b)|c", "(a&b)|c", "!a|!b", "!a|b", "a|b", "a|b|!c", "((aUb)&!c)|d");
            due("both of two in the all", x.part(0, 0, 3), 1);
            due("one of two in the all", x.part(1, 0, 3), 0);
            due("none of two in the all", x.part(2, 0, 3), 0);
            due("both of two in the any", x.part(3, 0, 3), 1);
            due("one of two in the any", x.part(4, 0, 3), 1);
            due("none of two in the any", x.part(5, 0, 3), 0);
            due("one of three in the any", x.part(6, 0, 3), 1);
            due("only the last of two in the all", x.part(7, 0, 3), 0);
            x = with("(!a&!b&c)|d", "((aUb)&Na&c)|d", "((aUb)&c&Nd)|d", "(aUb)|!a|b", "(!a&!b&Nc)|d", "(aRb)|a|b");
            due("two of three in the all", x.part(0, 0, 3), 0);
            due("the middle one of three in the all", x.part(1, 0, 3), 0);
            due("the middle one of three in it, too", x.part(2, 0, 3), 0);
            due("the middle one of three in the any", x.part(3, 0, 3), 1);
            due("all three in the all", x.part(4, 0, 3), 1);
            due("the first one of three in the any", x.part(5, 0, 3), 1);
        });
    }
}
