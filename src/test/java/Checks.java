/** What the tests by hand share: objects with wishes, texts of parts, and answers compared with those that are due. */
class Checks {
    private static int passed = 0;
    private static int failed = 0;
    private static String about = "";

    /** What is told ahead of each wrong answer from now on. */
    static void tellAbout(String name) {
        about = name;
    }

    static int failedSoFar() {
        return failed;
    }

    static int passedSoFar() {
        return passed;
    }

    static void due(String what, long got, long want) {
        due(what, Long.toString(got), Long.toString(want));
    }

    static void due(String what, String got, String want) {
        if (got.equals(want)) {
            passed++;
        } else {
            failed++;
            System.out.println(about + what + ": answered " + got + ", due is " + want);
        }
    }

    static void type(TimeWishes x, String text) {
        x.clearText();
        for (char c : text.toCharArray()) {
            x.type(c);
        }
    }

    static int add(TimeWishes x, String text) {
        type(x, text);
        return x.addWish();
    }

    static TimeWishes with(String... wishes) {
        TimeWishes x = new TimeWishes();
        for (String wish : wishes) {
            add(x, wish);
        }
        return x;
    }

    static void events(TimeWishes x, int... sets) {
        for (int set : sets) {
            x.event(set);
        }
    }

    static String text(TimeWishes x, int wish, int part) {
        StringBuilder letters = new StringBuilder();
        int code = x.letter(wish, part, 0);
        while (code >= 0 && letters.length() < 400) {
            letters.append((char) code);
            code = x.letter(wish, part, letters.length());
        }
        return letters.toString();
    }

    /** The texts of the parts, with a blank between two. */
    static String parts(TimeWishes x, int wish) {
        StringBuilder texts = new StringBuilder();
        for (int p = 0; p < x.wish(wish, 1); p++) {
            texts.append(p > 0 ? " " : "").append(text(x, wish, p));
        }
        return texts.toString();
    }

    static void reads(String typed, String form) {
        TimeWishes x = with(typed);
        due("the form of " + typed, parts(x, 0), form);
    }

    static void becomes(String typed, int set, String form) {
        TimeWishes x = with(typed);
        x.event(set);
        due("what event " + set + " makes of " + typed, parts(x, 0), form);
    }

    static void faultIs(String typed, int fault) {
        TimeWishes x = new TimeWishes();
        due("the fault of " + typed, add(x, typed), -100 - fault);
        due("no wish came of " + typed, x.count(3), 0);
        due("no state came of " + typed, x.count(7), 0);
    }
}
