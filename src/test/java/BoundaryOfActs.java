/** The boundaries that the promises 1 to 11 name: a new object, the run, wishes, texts and the history. */
final class BoundaryOfActs extends Sentences {

    static void run() {
        newObject();
        event();
        eventsThatAreFull();
        end();
        addWish();
        addWishThatIsFull();
        join();
        joinThatIsFull();
        joinOfParts();
        removeWish();
        typing();
        undo();
        snapshot();
    }

    private static void newObject() {
        in("Promise 1: A new object");
        sentence("Creates a run without events and wishes.", () -> {
            TimeWishes x = new TimeWishes();
            due("nothing is there", digest(x), "0,0,0,0,0,0,0,0,0;");
            due("event 0", x.at(0), TimeWishes.NONE);
            due("wish 0", x.wish(0, 0), TimeWishes.UNKNOWN);
            due("part 0 of it", x.part(0, 0, 0), TimeWishes.UNKNOWN);
            due("letter 0 of that", x.letter(0, 0, 0), TimeWishes.UNKNOWN);
            due("would of it", x.would(0, 0), TimeWishes.UNKNOWN);
            due("bears of it", x.bears(0, 0), TimeWishes.UNKNOWN);
            due("join of it", x.join(0, 0, true), TimeWishes.UNKNOWN);
            due("removing it", x.removeWish(0), TimeWishes.UNKNOWN);
            due("the first open one", x.open(0), TimeWishes.NONE);
            due("a state", x.undo(), TimeWishes.NONE);
            due("a snapshot", x.restore(), TimeWishes.NONE);
            due("the text", x.clearText(), 0);
            due("its wish", x.addWish(), -100);
            TimeWishes other = new TimeWishes();
            add(x, "a");
            x.event(1);
            x.keep();
            due("another object has nothing of it", digest(other), "0,0,0,0,0,0,0,0,0;");
            due("nor its snapshot", other.restore(), TimeWishes.NONE);
        });
    }

    private static void event() {
        in("Promise 2: event");
        sentence("Lets an event happen. This is an act.", () -> {
            TimeWishes x = new TimeWishes();
            due("before", x.count(0) * 10 + x.count(7), 0);
            x.event(5);
            due("behind one", x.count(0) * 10 + x.count(7), 11);
            due("it is the one", x.at(0), 5);
            x.undo();
            due("undone", x.count(0) * 10 + x.count(7), 0);
        });
        sentence("`set`: a set of signs, 0 to 63", () -> {
            TimeWishes x = new TimeWishes();
            due("-64", x.event(-64), TimeWishes.BAD_VALUE);
            due("-1", x.event(-1), TimeWishes.BAD_VALUE);
            due("0", x.event(0), 0);
            due("1", x.event(1), 0);
            due("62", x.event(62), 0);
            due("63", x.event(63), 0);
            due("64", x.event(64), TimeWishes.BAD_VALUE);
            due("65", x.event(65), TimeWishes.BAD_VALUE);
            due("127", x.event(127), TimeWishes.BAD_VALUE);
            due("the greatest number", x.event(Integer.MAX_VALUE), TimeWishes.BAD_VALUE);
            due("the least number", x.event(Integer.MIN_VALUE), TimeWishes.BAD_VALUE);
            due("four were good", x.count(0), 4);
            due("the last one", x.at(3), 63);
        });
        sentence("Returns how many wishes get the verdict 0 or 1 by it", () -> {
            due("without wishes", new TimeWishes().event(0), 0);
            due("none of two", with("Ga", "Xa").event(1), 0);
            due("one fulfilled of two", with("Ga", "a").event(1), 1);
            due("one broken of two", with("Fa", "a").event(0), 1);
            due("both, one broken and one fulfilled", with("!a", "a").event(0), 2);
            due("all eight", with("a", "b", "c", "d", "!a", "!b", "!c", "!d").event(3), 8);
            TimeWishes x = with("a", "1", "0", "Xb", "a");
            due("not those that had it as they came", x.event(1), 2);
            due("not those that have it from before", x.event(1), 1);
            due("none is left", x.event(1), 0);
            x = with("a", "a", "a");
            x.removeWish(1);
            due("not those that were removed", x.event(1), 2);
            due("one wish with two broken parts is one", with("a&b").event(0), 1);
        });
        sentence("NOT_POSSIBLE if the run is ended", () -> {
            TimeWishes x = new TimeWishes();
            due("before", x.event(1), 0);
            x.end();
            due("behind the end", x.event(1), TimeWishes.NOT_POSSIBLE);
            due("one event", x.count(0), 1);
            x.undo();
            due("the end undone", x.event(1), 0);
            due("two events", x.count(0), 2);
        });
    }

    private static void eventsThatAreFull() {
        sentence("FULL if there were 40 events", () -> {
            TimeWishes x = behindEvents(38);
            due("number 39", x.event(1), 0);
            due("number 40", x.event(2), 0);
            due("number 41", x.event(3), TimeWishes.FULL);
            due("number 41 once more", x.event(0), TimeWishes.FULL);
            due("there are 40", x.count(0), 40);
            due("the last one", x.at(39), 2);
            x.undo();
            due("number 40 again", x.event(4), 0);
            due("which is the last one", x.at(39), 4);
            due("number 41 again", x.event(5), TimeWishes.FULL);
        });
        sentence("or a part of a wish would have a size of more than 120", () -> {
            TimeWishes x = with("G" + times(57, "X") + "a");
            due("((0RX..a)&>&X..a) of 1 + 60 + 1 + 57", x.event(0), 0);
            due("its size", x.part(0, 0, 0), 119);
            x = with("F" + times(57, "X") + "a");
            due("((1UX..a)|(>&X..a)) of 1 + 60 + 59", x.event(0), 0);
            due("its size", x.part(0, 0, 0), 120);
            x = with("G" + times(58, "X") + "a");
            due("((0RX..a)&>&X..a) of 1 + 61 + 1 + 58", x.event(0), TimeWishes.FULL);
            due("its size", x.part(0, 0, 0), 61);
            due("no event", x.count(0) * 10 + x.count(7), 1);
            x.removeWish(0);
            due("a removed wish has no part that would", x.event(0), 0);
            x = with("F" + times(57, "X") + "a", "F" + times(57, "X") + "b");
            due("both together may", x.event(0), 0);
            due("both together do", x.wish(0, 7) + x.wish(1, 7), 240);
            x = with("G" + times(57, "X") + "a", "Xb");
            x.join(0, 1, false);
            due("two parts together may, too", x.event(0), 0);
            due("119 and 3", x.wish(2, 7), 122);
            due("also of a wish behind others", with("a", "Gb", "G" + times(58, "X") + "a").event(3), TimeWishes.FULL);
            x = with("a", "b&G" + times(55, "X") + "a");
            x.event(0);
            due("also of a wish that has its verdict", x.wish(1, 0) * 10 + x.event(0), TimeWishes.FULL);
            eightPartsOf120();
        });
    }

    /**
     * An event makes all of >, X..a, (0RX..a) and so on of 6 times G, 10 times X and a sign, which has the size
     * 1 + 1 + 10 + 13 + 15 + .. + 23.
     */
    private static void eightPartsOf120() {
        String part = times(6, "G") + times(10, "X");
        TimeWishes x = with(part + "a&" + part + "b&" + part + "c", part + "d&" + part + "e&" + part + "f",
            part + "!a&" + part + "!b");
        x.join(0, 1, false);
        x.join(2, 3, false);
        due("each has 23 at first", x.wish(4, 7), 8 * 23);
        due("eight parts have room", x.event(0), 0);
        for (int p = 0; p < 8; p++) {
            due("part " + p, x.part(4, p, 0), 120);
        }
        due("all eight", x.wish(4, 7), 960);
        due("the greatest one", x.open(0), 4);
        due("the length of the eighth: (, ), 7 times &, >, X..f, (0RX..f) and so on", x.part(4, 7, 1), 170);
        due("its last letters", x.letter(4, 7, 168) * 1000 + x.letter(4, 7, 169), 102041);
        due("its signs", x.part(4, 7, 2), 32);
        due("at the end", x.part(4, 7, 3), 0);
        due("any event leaves it open", x.bears(4, 0) * 100 + x.bears(4, 2), 6400);
        due("the next one has no room", x.event(63), TimeWishes.FULL);
        due("all of it and itself has 57 parts, as each part is an all now", x.join(4, 4, false), TimeWishes.FULL);
        due("any of two of them has no room", x.join(4, 0, true), TimeWishes.FULL);
        due("the end makes eight parts of 1", x.end() + x.wish(4, 7), 8);
    }

    private static void end() {
        in("Promise 3: end");
        sentence("Ends the run. This is an act.", () -> {
            TimeWishes x = new TimeWishes();
            due("before", x.count(1) * 10 + x.count(7), 0);
            due("without events and wishes", x.end(), 0);
            due("behind", x.count(1) * 10 + x.count(7), 11);
            x.undo();
            due("undone", x.count(1) * 10 + x.count(7), 0);
            x = behindEvents(40);
            due("behind 40 events", x.end(), 0);
            due("it is ended", x.count(1), 1);
        });
        sentence("Returns how many wishes get the verdict 1 by it", () -> {
            due("the broken one is not counted", with("Fa").end(), 0);
            due("the fulfilled one is", with("Ga").end(), 1);
            due("of both", with("Fa", "Ga").end(), 1);
            due("both", with("Ga", "Na").end(), 2);
            due("eight", with("Ga", "Na", "!a", "Gb", "Nb", "!b", "Gc", "Nc").end(), 8);
            due("not one that had it as it came", with("1", "Ga").end(), 1);
            TimeWishes x = with("a", "Ga");
            x.event(1);
            due("not one that had it by an event", x.end(), 1);
            x = with("Ga", "Gb");
            x.event(1);
            due("not one that was broken by an event", x.end(), 1);
            x = with("Ga", "Gb");
            x.removeWish(0);
            due("not one that was removed", x.end(), 1);
        });
        sentence("NOT_POSSIBLE if it is ended.", () -> {
            TimeWishes x = with("Ga");
            due("once", x.end(), 1);
            due("twice", x.end(), TimeWishes.NOT_POSSIBLE);
            due("two states", x.count(7), 2);
            x.undo();
            due("the end undone", x.end(), 1);
        });
    }

    private static void addWish() {
        in("Promise 4: addWish");
        sentence("Adds the wish of the text, which stays. This is an act.", () -> {
            TimeWishes x = new TimeWishes();
            type(x, "Fa");
            due("no wish yet", x.count(3) * 10 + x.count(7), 0);
            x.addWish();
            due("one", x.count(3) * 10 + x.count(7), 11);
            due("the text stays", x.count(8), 2);
            x.addWish();
            due("and again", parts(x, 1), "(1Ua)");
            x.type('b');
            due("with one more character it has a fault", x.addWish(), -102);
            x.undo();
            x.undo();
            due("undone", x.count(3) * 10 + x.count(7), 0);
            due("but the text stays", x.count(8), 3);
        });
        sentence("Returns its number", () -> {
            TimeWishes x = new TimeWishes();
            type(x, "a");
            for (int w = 0; w < 8; w++) {
                due("number", x.addWish(), w);
            }
            x = with("a", "b");
            x.removeWish(1);
            due("a number is not given again", add(x, "c"), 2);
            x.undo();
            x.undo();
            due("if the removing is undone, too", add(x, "d"), 2);
            x.undo();
            x.undo();
            due("but if it never came", add(x, "e"), 1);
        });
        sentence("-100 minus the fault of the text if it has one (which is an error)", () -> {
            TimeWishes x = new TimeWishes();
            due("of the empty text", x.addWish(), -100);
            due("at 0", add(x, "ga"), -100);
            due("at 1", add(x, "ag"), -101);
            due("at 2", add(x, "Xag"), -102);
            due("at 58", add(x, times(58, "X") + "ga"), -158);
            due("at 59", add(x, times(59, "X") + "g"), -159);
            due("at 60", add(x, times(60, "X")), -160);
            due("an error changes nothing", x.count(3) * 10 + x.count(7), 0);
            due("without a fault", add(x, "a"), 0);
        });
        sentence("NOT_POSSIBLE if the run is ended", () -> {
            TimeWishes x = new TimeWishes();
            due("before", add(x, "a"), 0);
            x.end();
            due("behind the end", x.addWish(), TimeWishes.NOT_POSSIBLE);
            x.undo();
            due("the end undone", x.addWish(), 1);
            x = behindEvents(40);
            due("40 events are no end", add(x, "a"), 0);
            due("it came behind 40 events", x.wish(0, 8), 40);
        });
    }

    private static void addWishThatIsFull() {
        sentence("FULL if there have been 8", () -> {
            TimeWishes x = with("a", "b", "c", "d", "e", "f");
            due("the seventh", add(x, "1"), 6);
            due("the eighth", add(x, "0"), 7);
            due("the ninth", add(x, "a"), TimeWishes.FULL);
            x.removeWish(0);
            due("have been, so also behind a removed one", x.addWish(), TimeWishes.FULL);
            due("eight so far", x.count(3), 8);
            x = with("a", "b", "c", "d", "e", "f", "Xa");
            x.join(0, 1, false);
            due("a joined one counts", add(x, "a"), TimeWishes.FULL);
        });
        sentence("or it has more than 8 parts.", () -> {
            TimeWishes x = new TimeWishes();
            due("seven", add(x, "a&b&c&d&e&f&Xa"), 0);
            due("eight", add(x, "a&b&c&d&e&f&Xa&Xb"), 1);
            due("nine", add(x, "a&b&c&d&e&f&Xa&Xb&Xc"), TimeWishes.FULL);
            due("fifteen", add(x, "a&b&c&d&e&f&Xa&Xb&Xc&Xd&Xe&Xf&Na&Nb&Nc"), TimeWishes.FULL);
            due("eight, one of them twice", add(x, "a&b&c&d&e&f&Xa&Xb&a"), 2);
            due("eight and 1", add(x, "a&b&c&d&e&f&Xa&Xb&1"), 3);
            due("nine in brackets", add(x, "(a&b&c&d&e)&(f&Xa&Xb&Xc)"), TimeWishes.FULL);
            due("ten that are 0, so one", add(x, "a&b&c&d&e&f&Xa&Xb&Xc&!a"), 4);
            due("nine below a sign in front, so one", add(x, "X(a&b&c&d&e&f&Xa&Xb&Xc)"), 5);
            due("the opposite of an any of nine", add(x, "!(a|b|c|d|e|f|Xa|Xb|Xc)"), TimeWishes.FULL);
            due("the opposite of an all of nine, so one", add(x, "!(a&b&c&d&e&f&Xa&Xb&Xc)"), 6);
            due("seven came", x.count(3), 7);
        });
    }

    private static void join() {
        in("Promise 5: join");
        sentence("Joins two wishes, as they are now, to a new one: all, or any of them (each as the all of its "
            + "parts). This is an act. (Both stay.)", () -> {
            TimeWishes x = with("a&Xb", "c");
            due("all of them", x.join(0, 1, false), 2);
            due("its parts", parts(x, 2), "Xb a c");
            due("any of them", x.join(0, 1, true), 3);
            due("its parts", parts(x, 3), "((Xb&a)|c)");
            due("both stay", parts(x, 0) + ", " + parts(x, 1), "Xb a, c");
            due("four states", x.count(7), 4);
            x.undo();
            due("undone", x.count(3), 3);
            x.event(1);
            due("as they are now", x.join(0, 1, true), 3);
            due("(>&b) and 1, or 0", parts(x, 3), "> b");
            due("a wish and itself, all", x.join(0, 0, false), 4);
            due("is that wish now", parts(x, 4), "> b");
            due("two broken ones, any", x.join(1, 1, true), 5);
            due("are broken", x.wish(5, 0), 0);
            due("a part that is now an all stays one there", parts(x, 0), "(>&b) 1");
        });
        sentence("Returns the number of the new one; UNKNOWN (one or other)", () -> {
            TimeWishes x = with("a", "b", "c");
            due("-1 and 0", x.join(-1, 0, true), TimeWishes.UNKNOWN);
            due("0 and -1", x.join(0, -1, true), TimeWishes.UNKNOWN);
            due("3 and 0", x.join(3, 0, true), TimeWishes.UNKNOWN);
            due("0 and 3", x.join(0, 3, false), TimeWishes.UNKNOWN);
            due("3 and 3", x.join(3, 3, false), TimeWishes.UNKNOWN);
            due("0 and 2", x.join(0, 2, false), 3);
            due("2 and 0", x.join(2, 0, true), 4);
            due("3 is known then", x.join(3, 0, false), 5);
            x.removeWish(1);
            due("the removed one and 0", x.join(1, 0, true), TimeWishes.UNKNOWN);
            due("0 and the removed one", x.join(0, 1, false), TimeWishes.UNKNOWN);
            due("six so far", x.count(3), 6);
        });
        sentence("NOT_POSSIBLE if the run is ended", () -> {
            TimeWishes x = with("a", "b");
            x.end();
            due("behind the end", x.join(0, 1, true), TimeWishes.NOT_POSSIBLE);
            x.undo();
            due("the end undone", x.join(0, 1, true), 2);
            x = behindEvents(40);
            add(x, "a");
            due("40 events are no end", x.join(0, 0, true), 1);
        });
    }

    private static void joinThatIsFull() {
        sentence("FULL if there have been 8", () -> {
            TimeWishes x = with("a", "b", "c", "d", "e", "f");
            due("the seventh", x.join(0, 1, true), 6);
            due("the eighth", x.join(0, 1, false), 7);
            due("the ninth", x.join(0, 1, false), TimeWishes.FULL);
            x.removeWish(5);
            due("have been, so also behind a removed one", x.join(0, 1, true), TimeWishes.FULL);
        });
        sentence("or a part a size of more than 120", () -> {
            String g = times(29, "G");
            TimeWishes x = with(g + "a", g + "Xa", g + "b", g + "Xb", g + "Xa&c");
            due("any of 59 and 59", x.join(0, 2, true), 5);
            due("has 119", x.part(5, 0, 0), 119);
            due("any of 60 and 60", x.join(1, 3, true), TimeWishes.FULL);
            due("any of 59 and all of 60 and c", x.join(2, 4, true), TimeWishes.FULL);
            due("any of 59 and 60", x.join(0, 3, true), 6);
            due("has 120", x.part(6, 0, 0), 120);
            due("all of 59 and 120", x.join(0, 6, false), 7);
            due("has it in two parts", x.wish(7, 1) * 1000 + x.wish(7, 7), 2179);
            x.undo();
            x.undo();
            add(x, "c");
            due("any of 59, 59 and 1", x.join(5, 6, true), 7);
            due("has 120", x.part(7, 0, 0), 120);
        });
    }

    private static void joinOfParts() {
        sentence("it would have more than 8 parts", () -> {
            TimeWishes x = with("a&b&c&d", "e&f&Xa", "e&f&Xa&Xb", "e&f&Xa&Xb&Xc");
            due("four and three", x.join(0, 1, false), 4);
            due("are seven", x.wish(4, 1), 7);
            due("four and four", x.join(0, 2, false), 5);
            due("are eight", parts(x, 5), "Xa Xb a b c d e f");
            due("four and five", x.join(0, 3, false), TimeWishes.FULL);
            due("any of four and five", x.join(0, 3, true), 6);
            due("is one", x.wish(6, 1), 1);
            due("eight and four of these", x.join(5, 2, false), 7);
            due("are eight", x.wish(7, 1), 8);
            x = with("a&b&c&d&e&f&Xa", "a&b&c&d&e&f&Xa&Xb", "0", "1");
            due("all of eight parts and 1", x.join(1, 3, false), 4);
            due("are eight", x.wish(4, 1), 8);
            due("any of eight parts and 0", x.join(1, 2, true), 5);
            due("are eight", x.wish(5, 1), 8);
            due("all of eight parts and 0", x.join(1, 2, false), 6);
            due("are one", parts(x, 6), "0");
            x = with("Xa&Xb&XXc&Nd");
            x.event(0);
            due("four parts, three of them an all with > by now", x.join(0, 0, false), 1);
            due("are five", parts(x, 1), "(.|d) > Xc a b");
            x = with("Xa&Xb&Xc&Xd&Xe&Xf&X!Na", "Xa&Xb&Xc&Xd&Xe&Xf&XXa&XXb");
            x.event(0);
            due("> and seven more", x.join(0, 0, false), 2);
            due("are eight", parts(x, 2), "> X-a a b c d e f");
            due("> and eight more", x.join(1, 1, false), TimeWishes.FULL);
            due("also as any of a wish and itself", x.join(1, 1, true), TimeWishes.FULL);
            due("but any of both is one", x.join(0, 1, true), 3);
        });
    }

    private static void removeWish() {
        in("Promise 6: removeWish");
        sentence("Removes a wish. This is an act.", () -> {
            TimeWishes x = with("a", "b");
            x.removeWish(0);
            due("the one", x.wish(0, 0), TimeWishes.UNKNOWN);
            due("the other one", x.wish(1, 0), 2);
            due("three states", x.count(7), 3);
            x.undo();
            due("undone", parts(x, 0), "a");
        });
        sentence("Returns how many are there then; UNKNOWN.", () -> {
            TimeWishes x = withEight();
            due("-1", x.removeWish(-1), TimeWishes.UNKNOWN);
            due("8", x.removeWish(8), TimeWishes.UNKNOWN);
            for (int w = 7; w >= 0; w--) {
                due("one less", x.removeWish(w), w);
                due("which is gone", x.removeWish(w), TimeWishes.UNKNOWN);
            }
            due("none is there", x.count(2), 0);
            due("eight so far", x.count(3), 8);
            x = with("0", "1", "Ga", "Fa");
            x.end();
            due("behind the end, a broken one", x.removeWish(0), 3);
            due("a fulfilled one", x.removeWish(1), 2);
            due("one that is not there", x.removeWish(4), TimeWishes.UNKNOWN);
            due("the last one so far", x.removeWish(3), 1);
            due("the last one that is there", x.removeWish(2), 0);
        });
    }

    private static void typing() {
        in("Promise 7: type");
        sentence("`character`: any character", () -> {
            TimeWishes x = new TimeWishes();
            due("the first one there is", x.type((char) 0), 1);
            due("a blank", x.type(' '), 2);
            due("127", x.type((char) 127), 3);
            due("128", x.type((char) 128), 4);
            due("255", x.type((char) 255), 5);
            due("256", x.type((char) 256), 6);
            due("the last one there is", x.type((char) 65535), 7);
            due("one with the low bits of a", add(x, "" + (char) (256 + 'a')), -100);
            due("one with the low bits of |", add(x, "a" + (char) (512 + '|') + "b"), -101);
        });
        sentence("Returns the length of the text then; FULL if it has 60 characters.", () -> {
            TimeWishes x = new TimeWishes();
            for (int n = 1; n <= 60; n++) {
                due("length", x.type('X'), n);
            }
            due("the 61st", x.type('a'), TimeWishes.FULL);
            due("the length stays", x.count(8), 60);
            due("the text, too", x.addWish(), -160);
            x.clearText();
            due("there is room again", x.type('a'), 1);
        });
        in("Promise 8: clearText");
        sentence("Empties the text.", () -> {
            TimeWishes x = new TimeWishes();
            type(x, "a&b");
            x.clearText();
            due("its length", x.count(8), 0);
            due("its fault", x.addWish(), -100);
            x.type('c');
            due("nothing stays of it", x.addWish(), 0);
            due("but what was typed then", parts(x, 0), "c");
            add(x, "!Xd");
            add(x, "e");
            add(x, "(a|b)&f");
            add(x, "b");
            due("nor of those behind", parts(x, 1) + ", " + parts(x, 2) + ", " + parts(x, 3) + ", " + parts(x, 4),
                "N-d, e, (a|b) f, b");
        });
        sentence("Returns the length that it had.", () -> {
            TimeWishes x = new TimeWishes();
            due("empty", x.clearText(), 0);
            x.type('a');
            due("one", x.clearText(), 1);
            due("empty again", x.clearText(), 0);
            type(x, times(59, "a"));
            due("59", x.clearText(), 59);
            type(x, times(60, "a"));
            due("60", x.clearText(), 60);
            type(x, times(61, "a"));
            due("61 were typed, one too many", x.clearText(), 60);
        });
    }

    private static void undo() {
        in("Promise 9: undo");
        sentence("Removes and restores the latest state of the history.", () -> {
            TimeWishes x = with("Fa");
            x.event(2);
            x.event(1);
            x.removeWish(0);
            x.undo();
            due("the wish is there again", x.wish(0, 0) * 10 + x.wish(0, 4), 11);
            x.undo();
            due("without its verdict", x.wish(0, 0) * 10 + x.count(0), 21);
            x.end();
            x.undo();
            due("not ended", x.count(1) * 10 + x.wish(0, 0), 2);
            x.undo();
            due("without events", x.count(0) * 10 + x.count(3), 1);
            x.undo();
            due("without the wish", x.count(3), 0);
        });
        sentence("Returns the number of states that are left; NONE if the history is empty.", () -> {
            TimeWishes x = new TimeWishes();
            due("of none", x.undo(), TimeWishes.NONE);
            x.event(0);
            due("of one", x.undo(), 0);
            due("of none again", x.undo(), TimeWishes.NONE);
            for (int i = 0; i < 5; i++) {
                x.event(i);
            }
            for (int left = 3; left >= 0; left--) {
                due("of four", x.undo(), left);
            }
            due("of none at last", x.undo(), TimeWishes.NONE);
        });
    }

    private static void snapshot() {
        in("Promise 10: keep");
        sentence("Takes a snapshot of the state, in place of the one that was.", () -> {
            TimeWishes x = with("Gb");
            x.keep();
            x.event(2);
            x.keep();
            x.event(0);
            due("the second one", x.restore() * 10 + x.wish(0, 0), 12);
            x.undo();
            due("is not the state of now", x.count(0) * 10 + x.wish(0, 0), 20);
            x.keep();
            due("the third one", x.restore() * 10 + x.wish(0, 0), 20);
        });
        sentence("Returns how many events there were.", () -> {
            TimeWishes x = new TimeWishes();
            due("none", x.keep(), 0);
            due("no state is recorded", x.count(7), 0);
            x.event(0);
            due("one", x.keep(), 1);
            x = behindEvents(39);
            due("39", x.keep(), 39);
            x.event(0);
            due("40", x.keep(), 40);
            x.end();
            due("40 behind the end", x.keep(), 40);
        });
        in("Promise 11: restore");
        sentence("Restores the state of the snapshot, which stays. This is an act.", () -> {
            TimeWishes x = with("Gb");
            x.event(2);
            x.keep();
            x.event(0);
            x.restore();
            due("its state", digest(x), "1,0,1,1,1,0,0,4,2; 2; 2 (0Rb)");
            x.end();
            x.restore();
            due("it stays", digest(x), "1,0,1,1,1,0,0,4,2; 2; 2 (0Rb)");
            due("undone", x.undo() * 10 + x.count(1), 31);
        });
        sentence("Returns how many events there were then; NONE if there is no snapshot.", () -> {
            TimeWishes x = new TimeWishes();
            due("no snapshot", x.restore(), TimeWishes.NONE);
            x.event(1);
            due("still none", x.restore(), TimeWishes.NONE);
            x.undo();
            x.keep();
            x.event(1);
            due("without events", x.restore(), 0);
            due("none is there", x.at(0), TimeWishes.NONE);
            x = behindEvents(40);
            x.keep();
            x.undo();
            due("40", x.restore(), 40);
            due("all of them", x.at(39), 39);
        });
    }
}
