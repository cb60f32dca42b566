import java.util.ArrayList;
import java.util.List;

/** The sentences that name no boundary: those that lead to others, and what the arguments are. */
final class LeadingWords extends Sentences {

    static void run() {
        forms();
        rewriting();
        errors();
        argumentsOfActs();
        argumentsOfWishAndParts();
        argumentsOfSets();
        argumentsOfTimes();
    }

    private static void forms() {
        in("FORMS");
        sentence("A form is one of these; its text is given behind it:", () -> {
            TimeWishes x = with("(aUNb)R!c|d", "X(XaUN!b)&(c|d)", "G(a|F(b&Xc))");
            for (int set : new int[] {1, 2, 3}) {
                for (int w = 0; w < 3; w++) {
                    for (String text : parts(x, w).split(" ")) {
                        due("where the form of " + text + " ends", endOfForm(text, 0), text.length());
                    }
                }
                x.event(set);
            }
            due("no form: of two characters", endOfForm("a&", 0), 1);
            due("no form: not in order", endOfForm("(b&a)", 0), -1);
        });
    }

    /** Where the text of the form that begins there ends, as FORMS gives the texts; -1 if none begins there. */
    private static int endOfForm(String text, int place) {
        if (place >= text.length()) {
            return -1;
        }
        char first = text.charAt(place);
        if (first == '-') {
            return place + 1 < text.length() && "abcdef".indexOf(text.charAt(place + 1)) >= 0 ? place + 2 : -1;
        }
        if (first == 'X' || first == 'N') {
            return endOfForm(text, place + 1);
        }
        if (first == '(') {
            return endOfRow(text, place + 1);
        }
        return "10>.abcdef".indexOf(first) >= 0 ? place + 1 : -1;
    }

    private static int endOfRow(String text, int begin) {
        List<String> row = new ArrayList<>();
        int place = begin;
        char between = 0;
        while (true) {
            int end = endOfForm(text, place);
            if (end < 0 || end >= text.length()) {
                return -1;
            }
            row.add(text.substring(place, end));
            place = end + 1;
            char behind = text.charAt(end);
            if (behind == ')') {
                return isRow(row, between) ? place : -1;
            }
            if ("UR&|".indexOf(behind) < 0 || (between != 0 && between != behind)) {
                return -1;
            }
            between = behind;
        }
    }

    private static boolean isRow(List<String> row, char between) {
        boolean ascends = true;
        for (int i = 1; i < row.size(); i++) {
            ascends &= row.get(i - 1).compareTo(row.get(i)) < 0;
        }
        return between == 'U' || between == 'R' ? row.size() == 2 : row.size() > 1 && ascends;
    }

    private static void rewriting() {
        in("REWRITING");
        sentence("What an event makes of a form:", () -> {
            TimeWishes x = with("Xa&(bUc)");
            x.event(2);
            due("of both parts", parts(x, 0), "(bUc) (>&a)");
            add(x, "a");
            x.event(1 + 4);
            due("of what the event before made", parts(x, 0), "1 1");
            due("of a form that came behind it", parts(x, 1), "1");
        });
        sentence("What a form is at the end of the run:", () -> {
            TimeWishes x = with("Ga&Fb&Xc&Nd&!e&f&(aUb|!c)");
            due("the parts", parts(x, 0), "((aUb)|-c) (0Ra) (1Ub) -e Nd Xc f");
            String now = "";
            for (int p = 0; p < 7; p++) {
                now += (p > 0 ? " " : "") + x.part(0, p, 3);
            }
            due("if it ended now", now, "1 1 0 1 1 0 0");
            x.end();
            due("behind the end", parts(x, 0), "1 1 0 1 1 0 0");
        });
    }

    private static void errors() {
        in("ERRORS");
        sentence("Errors are reported by the constants below.", () -> {
            TimeWishes x = with("a");
            due("an unknown wish", x.wish(1, 0), TimeWishes.UNKNOWN);
            due("a bad value", x.wish(0, 9), TimeWishes.BAD_VALUE);
            type(x, times(60, "X"));
            due("a full text", x.type('a'), TimeWishes.FULL);
            x.end();
            due("what is not possible", x.event(0), TimeWishes.NOT_POSSIBLE);
            due("what is none", x.at(0), TimeWishes.NONE);
        });
        sentence("The constants:", () -> {
            int[] constants = {TimeWishes.UNKNOWN, TimeWishes.BAD_VALUE, TimeWishes.FULL, TimeWishes.NOT_POSSIBLE,
                TimeWishes.NONE};
            for (int i = 0; i < 5; i++) {
                due("constant " + i, constants[i], -1 - i);
            }
        });
    }

    private static void argumentsOfActs() {
        in("Promise 2: event");
        sentence("BAD_VALUE", () -> {
            TimeWishes x = new TimeWishes();
            due("a seventh sign", x.event(64), TimeWishes.BAD_VALUE);
            due("below", x.event(-1), TimeWishes.BAD_VALUE);
            due("all six signs", x.event(63), 0);
        });
        in("Promise 5: join");
        sentence("- `one`: a wish - `other`: a wish - `any`: whether it is any of them", () -> {
            TimeWishes x = with("Xa&c", "b");
            due("any of one and other", parts(x, x.join(0, 1, true)), "((Xa&c)|b)");
            due("any of other and one", parts(x, x.join(1, 0, true)), "((Xa&c)|b)");
            due("all of one and other", parts(x, x.join(0, 1, false)), "Xa b c");
            due("all of other and one", parts(x, x.join(1, 0, false)), "Xa b c");
            due("of a joined one", parts(x, x.join(2, 1, true)), "((Xa&c)|b)");
            due("no wish as one", x.join(7, 0, false), TimeWishes.UNKNOWN);
            due("no wish as other", x.join(0, 7, false), TimeWishes.UNKNOWN);
        });
        in("Promise 6: removeWish");
        sentence("- `wish`: a wish", () -> {
            TimeWishes x = with("a", "b", "c");
            due("the second one", x.removeWish(1), 2);
            due("the others stay", digest(x), "0,0,2,3,2,0,0,4,1;; 2 a; -; 2 c");
            due("no wish any more", x.removeWish(1), TimeWishes.UNKNOWN);
        });
        in("Promise 7: type");
        sentence("Types a character behind the text.", () -> {
            TimeWishes x = new TimeWishes();
            x.type('X');
            x.type('b');
            x.addWish();
            due("in the order of typing", parts(x, 0), "Xb");
            x.type('U');
            x.type('c');
            x.addWish();
            due("behind what was there", parts(x, 1), "(XbUc)");
        });
    }

    private static void argumentsOfWishAndParts() {
        in("Promise 12: wish");
        sentence("- `wish`: a wish", () -> {
            TimeWishes x = with("a", "a&b", "a&b&c");
            due("the first one", x.wish(0, 1), 1);
            due("the second one", x.wish(1, 1), 2);
            due("the third one", x.wish(2, 1), 3);
            due("a fourth one", x.wish(3, 1), TimeWishes.UNKNOWN);
        });
        in("Promise 13: letter");
        sentence("- `wish`: a wish - `part`: a part of it", () -> {
            TimeWishes x = with("a&b", "c&d&e");
            due("the first of the first", x.letter(0, 0, 0), 97);
            due("the second of the first", x.letter(0, 1, 0), 98);
            due("the first of the second", x.letter(1, 0, 0), 99);
            due("the third of the second", x.letter(1, 2, 0), 101);
            due("the third of the first", x.letter(0, 2, 0), TimeWishes.UNKNOWN);
            due("of a third one", x.letter(2, 0, 0), TimeWishes.UNKNOWN);
        });
        sentence("Returns the code of the character", () -> {
            TimeWishes x = with("(!aUf)R(1|0)&N(b|c)&X0");
            due("the parts", parts(x, 0), "((-aUf)R1) N(b|c) X0");
            String[] texts = {"((-aUf)R1)", "N(b|c)", "X0"};
            for (int p = 0; p < 3; p++) {
                for (int i = 0; i < texts[p].length(); i++) {
                    due("part " + p + ", place " + i, x.letter(0, p, i), texts[p].charAt(i));
                }
            }
        });
        in("Promise 14: part");
        sentence("- `wish`: a wish - `part`: a part of it", () -> {
            TimeWishes x = with("a&XXb", "Gc");
            due("the first of the first, XXb", x.part(0, 0, 0), 3);
            due("the second of the first, a", x.part(0, 1, 0), 1);
            due("the first of the second, (0Rc)", x.part(1, 0, 1), 5);
            due("the second of the second", x.part(1, 1, 0), TimeWishes.UNKNOWN);
            due("of a third one", x.part(2, 0, 0), TimeWishes.UNKNOWN);
        });
    }

    private static void argumentsOfSets() {
        in("Promise 15: would");
        sentence("- `wish`: a wish - `set`: a set of signs", () -> {
            for (int set = 0; set < 64; set++) {
                TimeWishes x = with("b", "a&c|Xd");
                int want = (set & 2) != 0 ? 1 : 0;
                int other = (set & 5) == 5 ? 1 : 2;
                due("b with " + set, x.would(0, set), want);
                due("any of Xd and all of a and c with " + set, x.would(1, set), other);
                x.event(set);
                due("both behind it", x.wish(0, 0) * 10 + x.wish(1, 0), want * 10 + other);
            }
        });
        in("Promise 16: bears");
        sentence("Tells the events that a wish can bear, or by which it would be fulfilled", () -> {
            TimeWishes x = with("b&(c|Xd)", "!e");
            due("the 32 with b", x.bears(0, 0), 32);
            due("b alone", x.bears(0, 1), 2);
            due("the 16 with b and c", x.bears(0, 2), 16);
            due("b and c alone", x.bears(0, 3), 6);
            due("the 32 without e", x.bears(1, 0) * 100 + x.bears(1, 2), 3232);
            due("no sign", x.bears(1, 1) + x.bears(1, 3), 0);
        });
        sentence("- `wish`: a wish", () -> {
            TimeWishes x = with("a", "b|c");
            due("the first one", x.bears(0, 0), 32);
            due("the second one", x.bears(1, 0), 48);
            due("a third one", x.bears(2, 0), TimeWishes.UNKNOWN);
        });
    }

    private static void argumentsOfTimes() {
        in("Promise 17: open");
        sentence("- `rank`: a rank, from 0", () -> {
            TimeWishes x = with("a", "Xb", "Gc");
            due("rank 0", x.open(0), 2);
            due("rank 1", x.open(1), 1);
            due("rank 2", x.open(2), 0);
            due("rank 3", x.open(3), TimeWishes.NONE);
            due("rank -1", x.open(-1), TimeWishes.BAD_VALUE);
        });
        in("Promise 18: at");
        sentence("- `time`: a time", () -> {
            TimeWishes x = new TimeWishes();
            events(x, 5, 6, 7);
            for (int time = 0; time < 3; time++) {
                due("time " + time, x.at(time), 5 + time);
            }
            due("time 3", x.at(3), TimeWishes.NONE);
            due("time -1", x.at(-1), TimeWishes.BAD_VALUE);
        });
    }
}
