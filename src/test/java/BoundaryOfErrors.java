import java.util.function.ToIntFunction;

/** The boundaries that ERRORS names: constants, the order of the checks, and that errors and NONE change nothing. */
final class BoundaryOfErrors extends Sentences {

    private static final int[] FAR = {Integer.MIN_VALUE, Integer.MIN_VALUE + 1, -65536, -256, 65536, 1 << 30,
        Integer.MAX_VALUE - 1, Integer.MAX_VALUE};

    static void run() {
        in("ERRORS");
        constants();
        far();
        orderOfChecks();
        noneIsLast();
        errorsChangeNothing();
        fullChangesNothing();
        noneChangesNothing();
    }

    private static void constants() {
        sentence("`UNKNOWN = -1`: There is no such wish (or it was removed) or part.", () -> {
            due("the constant", TimeWishes.UNKNOWN, -1);
            TimeWishes x = with("a&b", "c");
            due("wish -1", x.wish(-1, 0), -1);
            due("wish 0", x.wish(0, 0), 2);
            due("wish 1", x.wish(1, 0), 2);
            due("wish 2", x.wish(2, 0), -1);
            due("part -1", x.part(0, -1, 0), -1);
            due("part 0", x.part(0, 0, 0), 1);
            due("part 1", x.part(0, 1, 0), 1);
            due("part 2", x.part(0, 2, 0), -1);
            x.removeWish(1);
            due("the removed wish", x.wish(1, 0), -1);
            due("its part", x.part(1, 0, 0), -1);
        });
        sentence("`BAD_VALUE = -2`: Another argument is out of range.", () -> {
            due("the constant", TimeWishes.BAD_VALUE, -2);
            due("a set below", new TimeWishes().event(-1), -2);
            due("the least set", new TimeWishes().event(0), 0);
            due("the greatest set", new TimeWishes().event(63), 0);
            due("a set above", new TimeWishes().event(64), -2);
        });
        sentence("`FULL = -3`: There is no more room.", () -> {
            due("the constant", TimeWishes.FULL, -3);
            TimeWishes x = behindEvents(39);
            due("room for one more", x.event(0), 0);
            due("no more room", x.event(0), -3);
        });
        sentence("`NOT_POSSIBLE = -4`: This is not possible.", () -> {
            due("the constant", TimeWishes.NOT_POSSIBLE, -4);
            TimeWishes x = new TimeWishes();
            due("possible", x.end(), 0);
            due("not possible", x.end(), -4);
        });
        sentence("`NONE = -5`: There is no such thing; not an error.", () -> {
            due("the constant", TimeWishes.NONE, -5);
            TimeWishes x = behindEvents(1);
            due("there is one", x.at(0), 0);
            due("there is none", x.at(1), -5);
        });
    }

    /** Numbers far outside, among them those whose low bits look like good ones. */
    private static void far() {
        sentence("Another argument is out of range.", () -> {
            TimeWishes x = with("a&b", "c");
            for (int far : FAR) {
                due("event " + far, x.event(far), TimeWishes.BAD_VALUE);
                due("would " + far, x.would(0, far), TimeWishes.BAD_VALUE);
                due("bears " + far, x.bears(0, far), TimeWishes.BAD_VALUE);
                due("what of a wish " + far, x.wish(0, far), TimeWishes.BAD_VALUE);
                due("what of a part " + far, x.part(0, 0, far), TimeWishes.BAD_VALUE);
                due("count " + far, x.count(far), TimeWishes.BAD_VALUE);
                int behind = far < 0 ? TimeWishes.BAD_VALUE : TimeWishes.NONE;
                due("letter " + far, x.letter(0, 0, far), behind);
                due("open " + far, x.open(far), behind);
                due("at " + far, x.at(far), behind);
            }
            due("nothing happened", digest(x), "0,0,2,2,2,0,0,2,1;; 2 a b; 2 c");
        });
        sentence("There is no such wish (or it was removed) or part.", () -> {
            TimeWishes x = with("a&b", "c");
            for (int far : FAR) {
                due("wish " + far, x.wish(far, 0), TimeWishes.UNKNOWN);
                due("join " + far, x.join(far, 0, true), TimeWishes.UNKNOWN);
                due("join with " + far, x.join(0, far, false), TimeWishes.UNKNOWN);
                due("remove " + far, x.removeWish(far), TimeWishes.UNKNOWN);
                due("letter of wish " + far, x.letter(far, 0, 0), TimeWishes.UNKNOWN);
                due("letter of part " + far, x.letter(0, far, 0), TimeWishes.UNKNOWN);
                due("part of wish " + far, x.part(far, 0, 0), TimeWishes.UNKNOWN);
                due("part " + far, x.part(0, far, 0), TimeWishes.UNKNOWN);
                due("would of " + far, x.would(far, 0), TimeWishes.UNKNOWN);
                due("bears of " + far, x.bears(far, 0), TimeWishes.UNKNOWN);
            }
            due("nothing happened", digest(x), "0,0,2,2,2,0,0,2,1;; 2 a b; 2 c");
        });
    }

    private static void orderOfChecks() {
        sentence("Where several errors can apply, the order of the @return line is the order of the checks.", () -> {
            TimeWishes x = behindEvents(40);
            due("event: FULL alone", x.event(63), TimeWishes.FULL);
            due("event: BAD_VALUE ahead of FULL", x.event(64), TimeWishes.BAD_VALUE);
            x.end();
            due("event: NOT_POSSIBLE ahead of FULL", x.event(63), TimeWishes.NOT_POSSIBLE);
            due("event: BAD_VALUE ahead of NOT_POSSIBLE", x.event(-1), TimeWishes.BAD_VALUE);
            x = withEight();
            type(x, "a");
            due("addWish: FULL alone", x.addWish(), TimeWishes.FULL);
            type(x, "a&");
            due("addWish: the fault ahead of FULL", x.addWish(), -102);
            x.removeWish(1);
            due("join: FULL alone", x.join(0, 2, true), TimeWishes.FULL);
            due("join: UNKNOWN ahead of FULL", x.join(0, 1, true), TimeWishes.UNKNOWN);
            x.end();
            due("addWish: the fault ahead of NOT_POSSIBLE", x.addWish(), -102);
            due("join: UNKNOWN ahead of NOT_POSSIBLE", x.join(1, 0, true), TimeWishes.UNKNOWN);
            due("join: NOT_POSSIBLE ahead of FULL", x.join(0, 2, true), TimeWishes.NOT_POSSIBLE);
            type(x, "a");
            due("addWish: NOT_POSSIBLE ahead of FULL", x.addWish(), TimeWishes.NOT_POSSIBLE);
            type(x, "a&b&c&d&e&f&Xa&Xb&Xc");
            due("addWish: also of nine parts", x.addWish(), TimeWishes.NOT_POSSIBLE);
        });
        sentence("the order of the @return line is the order of the checks", () -> {
            TimeWishes x = with("a");
            due("wish: UNKNOWN ahead of BAD_VALUE", x.wish(1, 9), TimeWishes.UNKNOWN);
            due("letter: the wish ahead of the place", x.letter(1, 0, -1), TimeWishes.UNKNOWN);
            due("letter: the part ahead of the place", x.letter(0, 1, -1), TimeWishes.UNKNOWN);
            due("part: the wish ahead of what", x.part(1, 0, 4), TimeWishes.UNKNOWN);
            due("part: the part ahead of what", x.part(0, 1, 4), TimeWishes.UNKNOWN);
            due("would: UNKNOWN ahead of BAD_VALUE", x.would(1, 64), TimeWishes.UNKNOWN);
            due("bears: UNKNOWN ahead of BAD_VALUE", x.bears(1, 4), TimeWishes.UNKNOWN);
            x.end();
            due("would: BAD_VALUE ahead of NOT_POSSIBLE", x.would(0, 64), TimeWishes.BAD_VALUE);
            due("would: UNKNOWN ahead of NOT_POSSIBLE", x.would(1, 0), TimeWishes.UNKNOWN);
            due("would: NOT_POSSIBLE alone", x.would(0, 0), TimeWishes.NOT_POSSIBLE);
            due("bears: BAD_VALUE ahead of NOT_POSSIBLE", x.bears(0, 4), TimeWishes.BAD_VALUE);
            due("bears: UNKNOWN ahead of NOT_POSSIBLE", x.bears(1, 0), TimeWishes.UNKNOWN);
            due("bears: NOT_POSSIBLE alone", x.bears(0, 0), TimeWishes.NOT_POSSIBLE);
        });
    }

    private static void noneIsLast() {
        sentence("NONE is no error; it is returned only if no error applies.", () -> {
            TimeWishes x = with("0", "a");
            due("the time of a wish that has none", x.wish(1, 4), TimeWishes.NONE);
            due("of a wish that is not there", x.wish(2, 4), TimeWishes.UNKNOWN);
            due("a letter behind the text", x.letter(1, 0, 1), TimeWishes.NONE);
            due("of a part that is not there", x.letter(1, 1, 1), TimeWishes.UNKNOWN);
            due("ahead of the text", x.letter(1, 0, -1), TimeWishes.BAD_VALUE);
            due("the least event of none", x.bears(0, 1), TimeWishes.NONE);
            due("the least of those that fulfil, of none", x.bears(0, 3), TimeWishes.NONE);
            due("of a wish that is not there", x.bears(2, 1), TimeWishes.UNKNOWN);
            due("a rank behind the last one", x.open(1), TimeWishes.NONE);
            due("a rank ahead of the first one", x.open(-1), TimeWishes.BAD_VALUE);
            due("a time behind the last one", x.at(0), TimeWishes.NONE);
            due("a time ahead of the first one", x.at(-1), TimeWishes.BAD_VALUE);
            x.end();
            due("the least event of none behind the end", x.bears(0, 1), TimeWishes.NOT_POSSIBLE);
        });
    }

    private interface Making {
        TimeWishes make();
    }

    /** The call answers what is due, and the object is as it was, its history and its snapshot, too. */
    private static void keeps(String call, Making making, ToIntFunction<TimeWishes> asked, int want,
            String... digests) {
        TimeWishes x = making.make();
        due(call, asked.applyAsInt(x), want);
        due("the state behind " + call, digest(x), digests[0]);
        x.undo();
        due("what is undone behind " + call, digest(x), digests[1]);
        x.restore();
        due("what is restored behind " + call, digest(x), digests[2]);
    }

    /** Fa&Gb has seen the events 2 and 10, Xc the event 10; the snapshot is that ahead of event 10. */
    private static TimeWishes running() {
        TimeWishes x = with("Fa&Gb");
        x.event(2);
        add(x, "Xc");
        x.keep();
        x.event(10);
        return x;
    }

    private static final String[] RUNNING = {
        "2,0,2,2,2,0,0,4,2; 2 10; 2 (0Rb) (1Ua); 2 (>&c)",
        "1,0,2,2,2,0,0,3,2; 2; 2 (0Rb) (1Ua); 2 Xc",
        "1,0,2,2,2,0,0,4,2; 2; 2 (0Rb) (1Ua); 2 Xc"
    };

    private static TimeWishes runningWithFault() {
        TimeWishes x = running();
        x.type('U');
        return x;
    }

    private static final String[] RUNNING_WITH_FAULT = {
        "2,0,2,2,2,0,0,4,3; 2 10; 2 (0Rb) (1Ua); 2 (>&c)",
        "1,0,2,2,2,0,0,3,3; 2; 2 (0Rb) (1Ua); 2 Xc",
        "1,0,2,2,2,0,0,4,3; 2; 2 (0Rb) (1Ua); 2 Xc"
    };

    private static TimeWishes ended() {
        TimeWishes x = with("Gb", "Fa");
        x.keep();
        x.end();
        return x;
    }

    private static final String[] ENDED = {
        "0,1,2,2,0,1,1,3,2;; 1 1; 0 0",
        "0,0,2,2,2,0,0,2,2;; 2 (0Rb); 2 (1Ua)",
        "0,0,2,2,2,0,0,3,2;; 2 (0Rb); 2 (1Ua)"
    };

    private static void errorsChangeNothing() {
        sentence("A call that returns an error or NONE changes nothing.", () -> {
            keeps("event(-1)", BoundaryOfErrors::running, x -> x.event(-1), TimeWishes.BAD_VALUE, RUNNING);
            keeps("event(64)", BoundaryOfErrors::running, x -> x.event(64), TimeWishes.BAD_VALUE, RUNNING);
            keeps("addWish()", BoundaryOfErrors::runningWithFault, x -> x.addWish(), -103, RUNNING_WITH_FAULT);
            keeps("join(0, 2)", BoundaryOfErrors::running, x -> x.join(0, 2, true), TimeWishes.UNKNOWN, RUNNING);
            keeps("join(2, 0)", BoundaryOfErrors::running, x -> x.join(2, 0, false), TimeWishes.UNKNOWN, RUNNING);
            keeps("removeWish(2)", BoundaryOfErrors::running, x -> x.removeWish(2), TimeWishes.UNKNOWN, RUNNING);
            keeps("wish(0, 9)", BoundaryOfErrors::running, x -> x.wish(0, 9), TimeWishes.BAD_VALUE, RUNNING);
            keeps("letter(0, 0, -1)", BoundaryOfErrors::running, x -> x.letter(0, 0, -1), TimeWishes.BAD_VALUE,
                RUNNING);
            keeps("part(0, 0, 4)", BoundaryOfErrors::running, x -> x.part(0, 0, 4), TimeWishes.BAD_VALUE, RUNNING);
            keeps("would(0, 64)", BoundaryOfErrors::running, x -> x.would(0, 64), TimeWishes.BAD_VALUE, RUNNING);
            keeps("bears(0, 4)", BoundaryOfErrors::running, x -> x.bears(0, 4), TimeWishes.BAD_VALUE, RUNNING);
            keeps("open(-1)", BoundaryOfErrors::running, x -> x.open(-1), TimeWishes.BAD_VALUE, RUNNING);
            keeps("at(-1)", BoundaryOfErrors::running, x -> x.at(-1), TimeWishes.BAD_VALUE, RUNNING);
            keeps("count(9)", BoundaryOfErrors::running, x -> x.count(9), TimeWishes.BAD_VALUE, RUNNING);
            keeps("event(0)", BoundaryOfErrors::ended, x -> x.event(0), TimeWishes.NOT_POSSIBLE, ENDED);
            keeps("end()", BoundaryOfErrors::ended, x -> x.end(), TimeWishes.NOT_POSSIBLE, ENDED);
            keeps("addWish()", BoundaryOfErrors::ended, x -> x.addWish(), TimeWishes.NOT_POSSIBLE, ENDED);
            keeps("join(0, 1)", BoundaryOfErrors::ended, x -> x.join(0, 1, true), TimeWishes.NOT_POSSIBLE, ENDED);
            keeps("would(0, 0)", BoundaryOfErrors::ended, x -> x.would(0, 0), TimeWishes.NOT_POSSIBLE, ENDED);
            keeps("bears(0, 0)", BoundaryOfErrors::ended, x -> x.bears(0, 0), TimeWishes.NOT_POSSIBLE, ENDED);
        });
    }

    /** The eighth wish comes behind the event 3; a snapshot is kept ahead of it. */
    private static TimeWishes ofEight() {
        TimeWishes x = with("1", "1", "1", "1", "1", "1", "Gb");
        x.keep();
        x.event(3);
        x.join(6, 6, false);
        return x;
    }

    private static final String SIX = "; 1 1; 1 1; 1 1; 1 1; 1 1; 1 1";
    private static final String[] OF_EIGHT = {
        "1,0,8,8,2,0,6,4,2; 3" + SIX + "; 2 (0Rb); 2 (0Rb)",
        "1,0,7,7,1,0,6,3,2; 3" + SIX + "; 2 (0Rb)",
        "0,0,7,7,1,0,6,4,2;" + SIX + "; 2 (0Rb)"
    };

    /** Behind one more event the second wish would have a size of 175; the first one is open still, though b fails. */
    private static TimeWishes nearTheSize() {
        TimeWishes x = with("Gb", "FX" + times(55, "X") + "a");
        x.keep();
        x.event(2);
        return x;
    }

    private static final String NEAR = "(1UX" + times(55, "X") + "a)";
    private static final String[] NEAR_THE_SIZE = {
        "1,0,2,2,2,0,0,3,58; 2; 2 (0Rb); 2 (" + NEAR + "|(>&" + times(55, "X") + "a))",
        "0,0,2,2,2,0,0,2,58;; 2 (0Rb); 2 " + NEAR,
        "0,0,2,2,2,0,0,3,58;; 2 (0Rb); 2 " + NEAR
    };

    private static TimeWishes ofNineParts() {
        TimeWishes x = with("a&b&c&d&e&f&Xa&Xb", "Xc");
        x.keep();
        x.event(63);
        type(x, "a&b&c&d&e&f&Xa&Xb&Xc");
        return x;
    }

    private static final String[] OF_NINE_PARTS = {
        "1,0,2,2,2,0,0,3,20; 63; 2 (>&a) (>&b) 1 1 1 1 1 1; 2 (>&c)",
        "0,0,2,2,2,0,0,2,20;; 2 Xa Xb a b c d e f; 2 Xc",
        "0,0,2,2,2,0,0,3,20;; 2 Xa Xb a b c d e f; 2 Xc"
    };

    private static void fullChangesNothing() {
        sentence("A call that returns an error or NONE changes nothing", () -> {
            keeps("addWish()", BoundaryOfErrors::ofEight, x -> x.addWish(), TimeWishes.FULL, OF_EIGHT);
            keeps("join(0, 6)", BoundaryOfErrors::ofEight, x -> x.join(0, 6, true), TimeWishes.FULL, OF_EIGHT);
            keeps("event(0)", BoundaryOfErrors::nearTheSize, x -> x.event(0), TimeWishes.FULL, NEAR_THE_SIZE);
            keeps("addWish()", BoundaryOfErrors::ofNineParts, x -> x.addWish(), TimeWishes.FULL, OF_NINE_PARTS);
            TimeWishes x = behindEvents(40);
            due("event(0)", x.event(0), TimeWishes.FULL);
            due("there are 40", x.count(0) * 100 + x.at(39), 4039);
            due("the latest state is undone", x.undo() * 100 + x.count(0), 339);
            x = new TimeWishes();
            type(x, times(60, "X"));
            due("type('a')", x.type('a'), TimeWishes.FULL);
            due("the text", x.addWish() * 100 + x.count(8), -16000 + 60);
        });
    }

    private static void noneChangesNothing() {
        sentence("returns an error or NONE changes nothing.", () -> {
            keeps("wish(0, 4)", BoundaryOfErrors::running, x -> x.wish(0, 4), TimeWishes.NONE, RUNNING);
            keeps("letter(0, 0, 5)", BoundaryOfErrors::running, x -> x.letter(0, 0, 5), TimeWishes.NONE, RUNNING);
            keeps("open(2)", BoundaryOfErrors::running, x -> x.open(2), TimeWishes.NONE, RUNNING);
            keeps("at(2)", BoundaryOfErrors::running, x -> x.at(2), TimeWishes.NONE, RUNNING);
            keeps("bears(0, 3)", BoundaryOfErrors::running, x -> x.bears(0, 3), TimeWishes.NONE, RUNNING);
            TimeWishes x = with("a");
            due("restore()", x.restore(), TimeWishes.NONE);
            due("nothing is restored", digest(x), "0,0,1,1,1,0,0,1,1;; 2 a");
            x.undo();
            due("undo()", x.undo(), TimeWishes.NONE);
            due("nothing is undone", digest(x), "0,0,0,0,0,0,0,0,1;");
            x.event(1);
            due("nothing was recorded", x.undo(), 0);
        });
    }
}
