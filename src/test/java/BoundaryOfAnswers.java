/** The boundaries that the promises 12 to 19 name: what is told of wishes, parts, events and counts. */
final class BoundaryOfAnswers extends Sentences {

    static void run() {
        wish();
        timesAndBlame();
        verdictNowAndSizes();
        letter();
        part();
        would();
        bears();
        bearsOfVerdicts();
        open();
        at();
        count();
    }

    private static void wish() {
        in("Promise 12: wish");
        sentence("`what`: 0 for its verdict, 1 for its parts (how many), 2 for the parts that are broken (a set, as "
            + "bits), 3 for those that are fulfilled (a set)", () -> {
            TimeWishes x = with("a", "!a", "Xa", "a&b&c&d&e&f&Xa&XXb", "b&!c&d");
            for (int w = 0; w < 5; w++) {
                due("open", x.wish(w, 0), 2);
                due("none is broken or fulfilled", x.wish(w, 2) + x.wish(w, 3), 0);
            }
            due("one part", x.wish(0, 1), 1);
            due("eight parts", x.wish(3, 1), 8);
            due("three parts", x.wish(4, 1), 3);
            x.event(1);
            due("fulfilled", x.wish(0, 0), 1);
            due("its only part", x.wish(0, 2) * 1000 + x.wish(0, 3), 1);
            due("broken", x.wish(1, 0), 0);
            due("its only part", x.wish(1, 2) * 1000 + x.wish(1, 3), 1000);
            due("open", x.wish(2, 0), 2);
            due("its only part is neither", x.wish(2, 2) * 1000 + x.wish(2, 3), 0);
            due("of eight (two X, a to f) the last five are broken", x.wish(3, 2), 8 + 16 + 32 + 64 + 128);
            due("one is fulfilled", x.wish(3, 3), 4);
            due("of three (-c, b, d) the last two are broken", x.wish(4, 2), 6);
            due("the first is fulfilled", x.wish(4, 3), 1);
            x = with("a&b&c&d&e&f&Xa&XXb");
            events(x, 63, 1, 2);
            due("all eight are fulfilled", x.wish(0, 3), 255);
            x = with("a&b&c&d&e&f&!Xa&Nb");
            x.event(0);
            due("six of eight are broken", x.wish(0, 2), 252);
            x.event(1);
            due("all eight are", x.wish(0, 2), 255);
        });
        sentence("Returns the number; UNKNOWN; BAD_VALUE.", () -> {
            TimeWishes x = with("a", "b");
            due("what -1", x.wish(0, -1), TimeWishes.BAD_VALUE);
            due("what 0", x.wish(0, 0), 2);
            due("what 8", x.wish(0, 8), 0);
            due("what 9", x.wish(0, 9), TimeWishes.BAD_VALUE);
            due("wish -1", x.wish(-1, 0), TimeWishes.UNKNOWN);
            due("wish 1", x.wish(1, 0), 2);
            due("wish 2", x.wish(2, 0), TimeWishes.UNKNOWN);
            due("wish 2, what 9", x.wish(2, 9), TimeWishes.UNKNOWN);
            x.removeWish(1);
            due("the removed one, what -1", x.wish(1, -1), TimeWishes.UNKNOWN);
            for (int what = 0; what <= 8; what++) {
                due("the removed one", x.wish(1, what), TimeWishes.UNKNOWN);
            }
        });
    }

    private static void timesAndBlame() {
        sentence("4 for the time of the event by which it was broken or fulfilled (NONE for neither, or not by an "
            + "event)", () -> {
            TimeWishes x = with("Fa", "Gb", "1", "0", "Fc", "Gb");
            due("neither", x.wish(0, 4), TimeWishes.NONE);
            due("fulfilled as it came", x.wish(2, 4), TimeWishes.NONE);
            due("broken as it came", x.wish(3, 4), TimeWishes.NONE);
            x.event(1);
            due("fulfilled at time 0", x.wish(0, 4), 0);
            due("broken at time 0", x.wish(1, 4), 0);
            events(x, 0, 0, 4);
            due("fulfilled at time 3", x.wish(4, 4), 3);
            due("the others stay", x.wish(0, 4) + x.wish(1, 4), 0);
            due("also those that came with theirs", x.wish(2, 4) + x.wish(3, 4), -10);
            add(x, "Gb");
            add(x, "Fb");
            x.end();
            due("fulfilled by the end", x.wish(6, 0) * 10 + x.wish(6, 4), 5);
            due("broken by the end", x.wish(7, 0) * 10 + x.wish(7, 4), TimeWishes.NONE);
            x = with("Fa");
            for (int i = 0; i < 39; i++) {
                x.event(0);
            }
            x.event(1);
            due("fulfilled at time 39", x.wish(0, 4), 39);
            x = with("Fa", "Xb");
            events(x, 1, 2);
            x.join(0, 1, false);
            due("a joined one is fulfilled as it comes", x.wish(2, 0) * 10 + x.wish(2, 4), 5);
        });
        sentence("5 for the signs to blame (a set; 0 if it was not broken by an event)", () -> {
            TimeWishes x = with("a&f", "1", "0", "Fb", "Xa&Xf", "a|f");
            due("open", x.wish(0, 5), 0);
            due("fulfilled as it came", x.wish(1, 5), 0);
            due("broken as it came", x.wish(2, 5), 0);
            x.event(1);
            due("broken by the event", x.wish(0, 5), 32);
            due("fulfilled by the event", x.wish(5, 5), 0);
            x.event(32);
            due("it stays", x.wish(0, 5), 32);
            due("broken by the second event", x.wish(4, 5), 1);
            x.join(0, 0, true);
            due("a joined one is broken as it comes", x.wish(6, 0) * 100 + x.wish(6, 5), 0);
            x.end();
            due("broken by the end", x.wish(3, 0) * 100 + x.wish(3, 5), 0);
            due("it stays behind the end", x.wish(0, 5), 32);
            for (int n = 0; n < 6; n++) {
                x = with("a");
                x.event(0);
                due("the one that was", x.wish(0, 4) * 10 + x.wish(0, 5), 1);
                x.undo();
                x.undo();
                for (int i = 0; i < n; i++) {
                    x.event(0);
                }
                add(x, "0");
                due("another one, that came broken instead of it", x.wish(0, 5), 0);
                due("at no time", x.wish(0, 4), TimeWishes.NONE);
            }
            x = with("a|b|c|d|e|f", "!a|!b|!c|!d|!e|!f");
            x.event(0);
            due("all six", x.wish(0, 5), 63);
            x.event(63);
            due("the other one was fulfilled", x.wish(1, 0) * 100 + x.wish(1, 5), 100);
        });
    }

    private static void verdictNowAndSizes() {
        sentence("6 for its verdict if the run ended now", () -> {
            TimeWishes x = with("Ga", "Fa", "Ga&Fa", "1", "0", "!a", "Na&Xb", "Gb");
            due("all its parts are true", x.wish(0, 6), 1);
            due("none is", x.wish(1, 6), 0);
            due("one of two is", x.wish(2, 6), 0);
            due("fulfilled", x.wish(3, 6), 1);
            due("broken", x.wish(4, 6), 0);
            due("the opposite of a sign", x.wish(5, 6), 1);
            due("N and X", x.wish(6, 6), 0);
            x.event(1);
            due("behind an event with a", x.wish(0, 6) * 100 + x.wish(1, 6) * 10 + x.wish(2, 6), 111);
            due("still", x.wish(3, 6) * 10 + x.wish(4, 6), 10);
            due("broken by the event", x.wish(7, 6), 0);
            due("nothing ended", x.count(1) * 10 + x.wish(0, 0), 2);
            x.end();
            due("behind the end", x.wish(0, 6) * 100 + x.wish(1, 6) * 10 + x.wish(6, 6), 110);
            x = with("a&Gb");
            x.event(2);
            due("broken, though what is left of it is true", x.wish(0, 6), 0);
        });
        sentence("7 for the sizes of its parts together, 8 for the time at which it came: how many events there "
            + "were", () -> {
            TimeWishes x = with("a", "a&b", "Ga&Xb&c", "a|b", "1");
            due("one part of 1", x.wish(0, 7), 1);
            due("two parts of 1", x.wish(1, 7), 2);
            due("parts of 3, 2 and 1", x.wish(2, 7), 6);
            due("an any of two", x.wish(3, 7), 3);
            due("1", x.wish(4, 7), 1);
            due("it came behind no event", x.wish(0, 8), 0);
            x.event(1);
            due("parts of 3, 3 and 1", x.wish(2, 7), 7);
            due("it still came behind no event", x.wish(0, 8), 0);
            due("behind one event", x.wish(add(x, "b"), 8), 1);
            for (int i = 0; i < 5; i++) {
                x.event(2);
                due("that stays behind the next event", x.wish(5, 8) * 10 + x.wish(0, 8), 10);
            }
            x.keep();
            x.end();
            due("and the end", x.wish(5, 8), 1);
            x.restore();
            due("and restore()", x.wish(5, 8), 1);
            x.undo();
            x.undo();
            x.undo();
            due("and undo()", x.wish(5, 8) * 10 + x.count(0), 15);
            x = with("a", "b", "c", "d", "e");
            x.event(1);
            add(x, "b");
            due("a joined one, too", x.wish(x.join(0, 5, true), 8), 1);
            x = behindEvents(40);
            due("behind 40 events", x.wish(add(x, "b"), 8), 40);
        });
    }

    private static void letter() {
        in("Promise 13: letter");
        sentence("`place`: a place in the text of the part as it is now, from 0", () -> {
            TimeWishes x = with("X!f&(aU0)");
            due("the first of (aU0)", x.letter(0, 0, 0), 40);
            due("the second", x.letter(0, 0, 1), 97);
            due("the third", x.letter(0, 0, 2), 85);
            due("the fourth", x.letter(0, 0, 3), 48);
            due("the last", x.letter(0, 0, 4), 41);
            due("the first of X-f", x.letter(0, 1, 0), 88);
            due("the second", x.letter(0, 1, 1), 45);
            due("the last", x.letter(0, 1, 2), 102);
            x.event(1);
            due("as it is now: the first of (-f&>)", x.letter(0, 1, 0), 40);
            due("the fifth", x.letter(0, 1, 4), 62);
            due("the last", x.letter(0, 1, 5), 41);
            x = with("F" + times(57, "X") + "a");
            x.event(0);
            due("a part of size 120: its length", x.part(0, 0, 1), 126);
            due("its first letter", x.letter(0, 0, 0), 40);
            due("its middle", x.letter(0, 0, 62) * 1000 + x.letter(0, 0, 63), 41124);
            due("its last letter", x.letter(0, 0, 125), 41);
            due("behind it", x.letter(0, 0, 126), TimeWishes.NONE);
        });
        sentence("UNKNOWN (wish or part); BAD_VALUE if place is negative; NONE if the text has not so many.", () -> {
            TimeWishes x = with("a&Xb", "1");
            due("wish -1", x.letter(-1, 0, 0), TimeWishes.UNKNOWN);
            due("wish 2", x.letter(2, 0, 0), TimeWishes.UNKNOWN);
            due("part -1", x.letter(0, -1, 0), TimeWishes.UNKNOWN);
            due("part 1", x.letter(0, 1, 0), 97);
            due("part 2", x.letter(0, 2, 0), TimeWishes.UNKNOWN);
            due("part 1 of a wish with one", x.letter(1, 1, 0), TimeWishes.UNKNOWN);
            due("place -1", x.letter(0, 0, -1), TimeWishes.BAD_VALUE);
            due("place 0 of two", x.letter(0, 0, 0), 88);
            due("place 1 of two", x.letter(0, 0, 1), 98);
            due("place 2 of two", x.letter(0, 0, 2), TimeWishes.NONE);
            due("place 0 of one", x.letter(1, 0, 0), 49);
            due("place 1 of one", x.letter(1, 0, 1), TimeWishes.NONE);
            due("part 2, place -1", x.letter(0, 2, -1), TimeWishes.UNKNOWN);
            x.removeWish(0);
            due("the removed wish", x.letter(0, 0, 0), TimeWishes.UNKNOWN);
        });
    }

    private static void part() {
        in("Promise 14: part");
        sentence("`what`: 0 for its size, 1 for the length of its text, 2 for the signs that it has, as they are or "
            + "their opposites (a set), 3 for whether it would be true if the run ended now (1, otherwise 0)", () -> {
            TimeWishes x = with("a", "!f", "X(a&!b&c&d&!e&f)", "1", "GF(b|!e)", "aUa", "a&Xb&!c");
            due("a: size", x.part(0, 0, 0), 1);
            due("a: length", x.part(0, 0, 1), 1);
            due("a: signs", x.part(0, 0, 2), 1);
            due("a: at the end", x.part(0, 0, 3), 0);
            due("-f: size", x.part(1, 0, 0), 1);
            due("-f: length", x.part(1, 0, 1), 2);
            due("-f: signs", x.part(1, 0, 2), 32);
            due("-f: at the end", x.part(1, 0, 3), 1);
            due("all signs: size", x.part(2, 0, 0), 8);
            due("all signs: length", x.part(2, 0, 1), 16);
            due("all signs", x.part(2, 0, 2), 63);
            due("1: length", x.part(3, 0, 1), 1);
            due("1: no signs", x.part(3, 0, 2), 0);
            due("1: at the end", x.part(3, 0, 3), 1);
            due("(0R(1U(-e|b))): size", x.part(4, 0, 0), 7);
            due("(0R(1U(-e|b))): length", x.part(4, 0, 1), 14);
            due("(0R(1U(-e|b))): signs", x.part(4, 0, 2), 18);
            due("(aUa): a sign twice", x.part(5, 0, 2), 1);
            due("the parts -c, Xb and a", x.part(6, 0, 2) * 10000 + x.part(6, 1, 2) * 100 + x.part(6, 2, 2), 40201);
            x.event(63);
            due("what is left of it: signs", x.part(6, 1, 2), 2);
            due("what is left of a: no signs", x.part(0, 0, 2), 0);
            due("what is left of a: 1 is true at the end", x.part(0, 0, 3), 1);
            x = with("a&Gb", "Fa&Gb");
            x.event(2);
            x.end();
            due("behind the end: (0Rb), left of a broken wish", x.part(0, 0, 0) * 10 + x.part(0, 0, 3), 31);
            due("0, by which it was broken", x.part(0, 1, 0) * 10 + x.part(0, 1, 3), 10);
            due("1, which (0Rb) became by the end", x.part(1, 0, 0) * 10 + x.part(1, 0, 3), 11);
            due("0, which (1Ua) became by the end", x.part(1, 1, 0) * 10 + x.part(1, 1, 3), 10);
        });
        sentence("Returns the number; UNKNOWN (wish or part); BAD_VALUE.", () -> {
            TimeWishes x = with("a&b", "c");
            due("what -1", x.part(0, 0, -1), TimeWishes.BAD_VALUE);
            due("what 0", x.part(0, 0, 0), 1);
            due("what 3", x.part(0, 0, 3), 0);
            due("what 4", x.part(0, 0, 4), TimeWishes.BAD_VALUE);
            due("wish -1", x.part(-1, 0, 0), TimeWishes.UNKNOWN);
            due("wish 1", x.part(1, 0, 0), 1);
            due("wish 2", x.part(2, 0, 0), TimeWishes.UNKNOWN);
            due("part -1", x.part(0, -1, 0), TimeWishes.UNKNOWN);
            due("part 1", x.part(0, 1, 0), 1);
            due("part 2", x.part(0, 2, 0), TimeWishes.UNKNOWN);
            due("part 1 of a wish with one", x.part(1, 1, 0), TimeWishes.UNKNOWN);
            due("part 2, what 4", x.part(0, 2, 4), TimeWishes.UNKNOWN);
            x.removeWish(1);
            due("the removed wish", x.part(1, 0, 0), TimeWishes.UNKNOWN);
        });
    }

    private static void would() {
        in("Promise 15: would");
        sentence("Tells what verdict a wish would have behind an event (one that has its verdict keeps it).", () -> {
            TimeWishes x = with("a", "!a", "Xa", "0", "1", "a&b", "a&Xb");
            due("fulfilled", x.would(0, 1), 1);
            due("broken", x.would(0, 62), 0);
            due("broken by a", x.would(1, 1), 0);
            due("open", x.would(2, 1), 2);
            due("a broken one", x.would(3, 63), 0);
            due("a fulfilled one", x.would(4, 0), 1);
            due("both of two parts", x.would(5, 3), 1);
            due("one of two parts", x.would(5, 1), 0);
            due("one is fulfilled, one is open", x.would(6, 1), 2);
            due("nothing happened", x.count(0) * 10 + x.wish(0, 0), 2);
            due("nothing was recorded", x.count(7), 4);
            x.event(0);
            due("one that was broken by an event keeps it", x.would(0, 1), 0);
            due("one that was fulfilled by an event, too", x.would(1, 1), 1);
            due("what is left of Xa", x.would(2, 1), 1);
            x = behindEvents(40);
            add(x, "a");
            due("also behind 40 events", x.would(0, 1), 1);
            x = with("G" + times(58, "X") + "a");
            due("also a part that would be too large", x.would(0, 0), 2);
        });
        sentence("Returns the verdict; UNKNOWN; BAD_VALUE; NOT_POSSIBLE if the run is ended.", () -> {
            TimeWishes x = with("a", "1");
            due("wish -1", x.would(-1, 0), TimeWishes.UNKNOWN);
            due("wish 1", x.would(1, 0), 1);
            due("wish 2", x.would(2, 0), TimeWishes.UNKNOWN);
            due("wish 2, set 64", x.would(2, 64), TimeWishes.UNKNOWN);
            due("set -1", x.would(0, -1), TimeWishes.BAD_VALUE);
            due("set 0", x.would(0, 0), 0);
            due("set 63", x.would(0, 63), 1);
            due("set 64", x.would(0, 64), TimeWishes.BAD_VALUE);
            due("set 65", x.would(0, 65), TimeWishes.BAD_VALUE);
            due("set 64 of one with its verdict", x.would(1, 64), TimeWishes.BAD_VALUE);
            x.end();
            due("behind the end", x.would(0, 0), TimeWishes.NOT_POSSIBLE);
            due("of one with its verdict, too", x.would(1, 0), TimeWishes.NOT_POSSIBLE);
            due("set 64 behind the end", x.would(0, 64), TimeWishes.BAD_VALUE);
            due("wish 2 behind the end", x.would(2, 64), TimeWishes.UNKNOWN);
            x.undo();
            due("the end undone", x.would(0, 1), 1);
            x.removeWish(0);
            due("the removed wish", x.would(0, 1), TimeWishes.UNKNOWN);
        });
    }

    private static void bearsAre(TimeWishes x, int wish, String want) {
        StringBuilder told = new StringBuilder();
        for (int what = 0; what <= 3; what++) {
            told.append(what > 0 ? " " : "").append(x.bears(wish, what));
        }
        due("what " + parts(x, wish) + " can bear", told.toString(), want);
    }

    private static void bears() {
        in("Promise 16: bears");
        sentence("`what`: 0 for how many of the 64 events would not break it, 1 for the least of them (as a number; "
            + "NONE without any), 2 for how many would fulfil it, 3 for the least of these (NONE without any)", () -> {
            TimeWishes x = with("a", "!a", "f", "Xa", "X0", "a&b&c&d&e&f", "!a&!b&!c&!d&!e&!f", "a|b|c|d|e|f");
            bearsAre(x, 0, "32 1 32 1");
            bearsAre(x, 1, "32 0 32 0");
            bearsAre(x, 2, "32 32 32 32");
            bearsAre(x, 3, "64 0 0 -5");
            bearsAre(x, 4, "0 -5 0 -5");
            bearsAre(x, 5, "1 63 1 63");
            bearsAre(x, 6, "1 0 1 0");
            bearsAre(x, 7, "63 1 63 1");
            x = with("a|Xb", "a&Xb", "aUb", "aRb", "f&(b|c)", "!a|!b|!c|!d|!e|!f", "Gf", "N1");
            bearsAre(x, 0, "64 0 32 1");
            bearsAre(x, 1, "32 1 0 -5");
            bearsAre(x, 2, "48 1 32 2");
            bearsAre(x, 3, "32 2 16 3");
            bearsAre(x, 4, "24 34 24 34");
            bearsAre(x, 5, "63 0 63 0");
            bearsAre(x, 6, "32 32 0 -5");
            bearsAre(x, 7, "64 0 64 0");
            due("nothing happened", x.count(0) * 10 + x.count(7), 4);
            x = with("G" + times(58, "X") + "a");
            bearsAre(x, 0, "64 0 0 -5");
        });
        sentence("Returns the number; UNKNOWN; BAD_VALUE; NOT_POSSIBLE if the run is ended.", () -> {
            TimeWishes x = with("a", "b");
            due("what -1", x.bears(0, -1), TimeWishes.BAD_VALUE);
            due("what 0", x.bears(0, 0), 32);
            due("what 3", x.bears(0, 3), 1);
            due("what 4", x.bears(0, 4), TimeWishes.BAD_VALUE);
            due("wish -1", x.bears(-1, 0), TimeWishes.UNKNOWN);
            due("wish 1", x.bears(1, 1), 2);
            due("wish 2", x.bears(2, 0), TimeWishes.UNKNOWN);
            due("wish 2, what 4", x.bears(2, 4), TimeWishes.UNKNOWN);
            x.end();
            due("behind the end", x.bears(0, 0), TimeWishes.NOT_POSSIBLE);
            due("what 4 behind the end", x.bears(0, 4), TimeWishes.BAD_VALUE);
            due("wish 2 behind the end", x.bears(2, 4), TimeWishes.UNKNOWN);
            x.undo();
            due("the end undone", x.bears(0, 0), 32);
            x.removeWish(0);
            due("the removed wish", x.bears(0, 0), TimeWishes.UNKNOWN);
        });
    }

    private static void bearsOfVerdicts() {
        sentence("(as would() tells it: of a wish that has its verdict all 64 are alike)", () -> {
            TimeWishes x = with("0", "1", "a", "!a", "b&Ga");
            bearsAre(x, 0, "0 -5 0 -5");
            bearsAre(x, 1, "64 0 64 0");
            bearsAre(x, 2, "32 1 32 1");
            x.event(1);
            bearsAre(x, 2, "64 0 64 0");
            bearsAre(x, 3, "0 -5 0 -5");
            due("of one that is broken a part is left", parts(x, 4), "(0Ra) 0");
            bearsAre(x, 4, "0 -5 0 -5");
        });
    }

    private static void open() {
        in("Promise 17: open");
        sentence("Tells the open wishes: those with the greatest size (of all their parts together) first, of several "
            + "the lowest number.", () -> {
            TimeWishes x = with("a", "Xa", "b", "a&b&c", "1", "Ga", "Xb", "a|b");
            due("three parts of 1", x.open(0), 3);
            due("one part of 3", x.open(1), 5);
            due("another one", x.open(2), 7);
            due("size 2", x.open(3), 1);
            due("another one", x.open(4), 6);
            due("size 1", x.open(5), 0);
            due("another one", x.open(6), 2);
            due("no more, as the fulfilled one is not open", x.open(7), TimeWishes.NONE);
            x.removeWish(5);
            due("without the removed one", x.open(1), 7);
            due("six are left", x.open(5) * 10 + x.open(6), 15);
            x.event(0);
            due("as they are now: (>&a)", x.open(0), 1);
            due("(>&b)", x.open(1), 6);
            due("all others have their verdict", x.open(2), TimeWishes.NONE);
        });
        sentence("Returns the wish; BAD_VALUE if rank is negative; NONE if there are not so many.", () -> {
            TimeWishes x = new TimeWishes();
            due("none is open", x.open(0), TimeWishes.NONE);
            due("rank -1 of none", x.open(-1), TimeWishes.BAD_VALUE);
            x = withEight();
            due("rank -1", x.open(-1), TimeWishes.BAD_VALUE);
            due("rank 0", x.open(0), 6);
            due("rank 1", x.open(1), 7);
            due("rank 2", x.open(2), 0);
            due("rank 7", x.open(7), 5);
            due("rank 8", x.open(8), TimeWishes.NONE);
            due("rank 9", x.open(9), TimeWishes.NONE);
            x.end();
            due("behind the end", x.open(0), TimeWishes.NONE);
        });
    }

    private static void at() {
        in("Promise 18: at");
        sentence("Returns the event at it; BAD_VALUE if time is negative; NONE if there was none yet.", () -> {
            TimeWishes x = new TimeWishes();
            due("time -1", x.at(-1), TimeWishes.BAD_VALUE);
            due("time 0 of none", x.at(0), TimeWishes.NONE);
            x.event(63);
            due("time 0 of one", x.at(0), 63);
            due("time 1 of one", x.at(1), TimeWishes.NONE);
            x.event(0);
            due("time 1 of two", x.at(1), 0);
            due("time 2 of two", x.at(2), TimeWishes.NONE);
            x.undo();
            due("time 1 undone", x.at(1), TimeWishes.NONE);
            x.end();
            due("time 0 behind the end", x.at(0), 63);
            due("time 1 behind the end", x.at(1), TimeWishes.NONE);
            x = behindEvents(39);
            due("time 38 of 39", x.at(38), 38);
            due("time 39 of 39", x.at(39), TimeWishes.NONE);
            x.event(63);
            due("time 39 of 40", x.at(39), 63);
            due("time 40 of 40", x.at(40), TimeWishes.NONE);
            due("time 41 of 40", x.at(41), TimeWishes.NONE);
        });
    }

    private static void count() {
        in("Promise 19: count");
        sentence("`what`: 0 for events, 1 for whether the run is ended (1, otherwise 0), 2 for wishes that are there, "
            + "3 for wishes so far, 4 for those that are open, 5 for those that are broken, 6 for those that are "
            + "fulfilled, 7 for the states in the history, 8 for the length of the text", () -> {
            TimeWishes x = new TimeWishes();
            due("of a new object", digest(x), "0,0,0,0,0,0,0,0,0;");
            add(x, "0");
            due("with a broken one", digest(x), "0,0,1,1,0,1,0,1,1;; 0 0");
            add(x, "1");
            due("with a fulfilled one", digest(x), "0,0,2,2,0,1,1,2,1;; 0 0; 1 1");
            add(x, "Ga");
            due("with an open one", digest(x), "0,0,3,3,1,1,1,3,2;; 0 0; 1 1; 2 (0Ra)");
            add(x, "Fb");
            due("with two open ones", digest(x), "0,0,4,4,2,1,1,4,2;; 0 0; 1 1; 2 (0Ra); 2 (1Ub)");
            x.event(2);
            due("one of each more", digest(x), "1,0,4,4,0,2,2,4,2; 2; 0 0; 1 1; 0 0; 1 1");
            x.removeWish(0);
            due("without a broken one", digest(x), "1,0,3,4,0,1,2,4,2; 2; -; 1 1; 0 0; 1 1");
            x.removeWish(1);
            due("without a fulfilled one", digest(x), "1,0,2,4,0,1,1,4,2; 2; -; -; 0 0; 1 1");
            x.clearText();
            add(x, "Gc");
            x.removeWish(4);
            due("without an open one", digest(x), "1,0,2,5,0,1,1,4,2; 2; -; -; 0 0; 1 1; -");
            x.end();
            due("behind the end", digest(x), "1,1,2,5,0,1,1,4,2; 2; -; -; 0 0; 1 1; -");
            x = withEight();
            due("eight", digest(x), "0,0,8,8,8,0,0,4,2;; 2 a; 2 b; 2 c; 2 d; 2 e; 2 f; 2 Xa; 2 Xb");
            x.end();
            due("eight by the end", x.count(4) * 100 + x.count(5) * 10 + x.count(6), 80);
            due("40 events", behindEvents(40).count(0), 40);
        });
        sentence("Returns the number; BAD_VALUE.", () -> {
            TimeWishes x = with("ab");
            due("what -1", x.count(-1), TimeWishes.BAD_VALUE);
            due("what 0", x.count(0), 0);
            due("what 8", x.count(8), 2);
            due("what 9", x.count(9), TimeWishes.BAD_VALUE);
            due("what 10", x.count(10), TimeWishes.BAD_VALUE);
        });
    }
}
