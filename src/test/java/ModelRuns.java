import java.util.TreeMap;

/** Runs of calls, the same ones each time, on the class and on the plain model; each answer must be alike. */
public final class ModelRuns {
    private static final int RUNS = 4000;
    private static final int CALLS = 512;
    private static final String NOISE = "abcdefg102!XNGFUR&|() \u0141>.-";

    private long seed;
    private TimeWishes mine;
    private PlainModel model;
    private final StringBuilder told = new StringBuilder();
    private int calls;
    private static int wrong = 0;
    private static final TreeMap<String, Integer> seen = new TreeMap<>();

    private int pick(int below) {
        seed = seed * 6364136223846793005L + 1442695040888963407L;
        return (int) ((seed >>> 33) % below);
    }

    private boolean oneOf(int n) {
        return pick(n) == 0;
    }

    private int wishNumber() {
        return oneOf(12) ? pick(12) - 2 : pick(Math.max(1, model.now.wishes().size()));
    }

    private int partNumber() {
        return oneOf(3) ? pick(11) - 1 : pick(2);
    }

    private int set() {
        return oneOf(15) ? pick(80) - 8 : pick(64);
    }

    /** Answers of an error kind are counted by call, so that a run of the test shows what it reached. */
    private void due(String call, int got, int want) {
        calls++;
        told.append(call).append(" -> ").append(got).append('\n');
        String name = call.substring(0, call.indexOf('('));
        seen.merge(name + (want >= 0 ? " number" : want <= -100 ? " fault" : " " + want), 1, Integer::sum);
        if (got != want) {
            wrong++;
            if (wrong == 1) {
                System.out.println(told + "due is " + want);
            }
        }
    }

    private void type(String text) {
        due("clearText()", mine.clearText(), model.clearText());
        for (char c : text.toCharArray()) {
            due("type('" + c + "')", mine.type(c), model.type(c));
        }
    }

    private void typeWish(boolean dear) {
        StringBuilder text = new StringBuilder();
        if (dear && oneOf(3)) {
            text.append(oneOf(2) ? "G" : "F");
        }
        row(text, dear ? 4 : 2 + pick(2), 4);
        if (oneOf(8) && text.length() > 0) {
            text.setCharAt(pick(text.length()), NOISE.charAt(pick(NOISE.length())));
        }
        if (oneOf(20)) {
            text.setLength(pick(text.length() + 1));
        }
        type(text.substring(0, Math.min(text.length(), oneOf(40) ? 64 : 40)));
        due("addWish()", mine.addWish(), model.addWish());
    }

    private void row(StringBuilder text, int depth, int brackets) {
        int n = 1 + pick(3);
        for (int i = 0; i < n; i++) {
            if (i > 0) {
                text.append("&&|UR".charAt(pick(5)));
            }
            thing(text, depth, brackets);
        }
    }

    private void thing(StringBuilder text, int depth, int brackets) {
        while (oneOf(2)) {
            text.append("!XNGF".charAt(pick(5)));
        }
        if (depth > 0 && brackets > 0 && oneOf(2)) {
            text.append('(');
            row(text, depth - 1, brackets - 1);
            text.append(')');
        } else {
            text.append(oneOf(12) ? (char) ('0' + pick(2)) : (char) ('a' + pick(oneOf(4) ? 6 : 3)));
        }
    }

    private void act(boolean dear) {
        switch (pick(dear ? 12 : 16)) {
            case 0: case 1: case 2: case 3: case 4: {
                int set = set();
                due("event(" + set + ")", mine.event(set), model.event(set));
                break;
            }
            case 5:
                typeWish(dear);
                break;
            case 6: {
                int one = wishNumber();
                int other = wishNumber();
                boolean any = oneOf(2);
                due("join(" + one + ", " + other + ", " + any + ")", mine.join(one, other, any),
                    model.join(one, other, any));
                break;
            }
            case 7:
                if (oneOf(3)) {
                    due("undo()", mine.undo(), model.undo());
                }
                break;
            case 8:
                due("keep()", mine.keep(), model.keep());
                break;
            case 9:
                if (oneOf(3)) {
                    due("restore()", mine.restore(), model.restore());
                }
                break;
            case 10: {
                int wish = wishNumber();
                if (oneOf(3)) {
                    due("removeWish(" + wish + ")", mine.removeWish(wish), model.removeWish(wish));
                }
                break;
            }
            case 11:
                if (oneOf(10)) {
                    due("end()", mine.end(), model.end());
                }
                break;
            default:
                ask();
                break;
        }
    }

    private void ask() {
        int wish = wishNumber();
        int part = partNumber();
        int what = oneOf(10) ? pick(13) - 2 : pick(9);
        int few = oneOf(10) ? pick(8) - 2 : pick(4);
        int set = set();
        int place = pick(14) - 1;
        switch (pick(8)) {
            case 0: due("wish(" + wish + ", " + what + ")", mine.wish(wish, what), model.wish(wish, what)); break;
            case 1: due("letter(" + wish + ", " + part + ", " + place + ")", mine.letter(wish, part, place),
                model.letter(wish, part, place)); break;
            case 2: due("part(" + wish + ", " + part + ", " + few + ")", mine.part(wish, part, few),
                model.part(wish, part, few)); break;
            case 3: due("would(" + wish + ", " + set + ")", mine.would(wish, set), model.would(wish, set)); break;
            case 4: due("bears(" + wish + ", " + few + ")", mine.bears(wish, few), model.bears(wish, few)); break;
            case 5: due("open(" + (place / 2) + ")", mine.open(place / 2), model.open(place / 2)); break;
            case 6: due("at(" + place * 4 + ")", mine.at(place * 4), model.at(place * 4)); break;
            default: due("count(" + what + ")", mine.count(what), model.count(what)); break;
        }
    }

    /** Every answer that the state has, but what a wish can bear of only one wish, as this is slow in the model. */
    private void askAll() {
        for (int what = -1; what <= 9; what++) {
            due("count(" + what + ")", mine.count(what), model.count(what));
            due("open(" + what + ")", mine.open(what), model.open(what));
        }
        for (int time = -1; time <= 40; time++) {
            due("at(" + time + ")", mine.at(time), model.at(time));
        }
        for (int w = -1; w <= 8; w++) {
            for (int what = -1; what <= 9; what++) {
                due("wish(" + w + ", " + what + ")", mine.wish(w, what), model.wish(w, what));
            }
            for (int p = -1; p <= 8; p++) {
                for (int what = -1; what <= 4; what++) {
                    due("part(" + w + ", " + p + ", " + what + ")", mine.part(w, p, what), model.part(w, p, what));
                }
                int length = Math.max(0, model.part(w, p, 1));
                for (int place = -1; place <= length; place++) {
                    due("letter(" + w + ", " + p + ", " + place + ")", mine.letter(w, p, place),
                        model.letter(w, p, place));
                }
            }
            int set = set();
            due("would(" + w + ", " + set + ")", mine.would(w, set), model.would(w, set));
        }
        int w = wishNumber();
        for (int what = -1; what <= 4; what++) {
            due("bears(" + w + ", " + what + ")", mine.bears(w, what), model.bears(w, what));
        }
    }

    private void run(int number) {
        seed = number * 7919L + 17;
        mine = new TimeWishes();
        model = new PlainModel();
        boolean dear = number % 2 == 1;
        int first = 1 + pick(3);
        for (int i = 0; i < first; i++) {
            typeWish(dear);
        }
        for (int i = 0; i < 40; i++) {
            if (calls > CALLS - 70) {
                break;
            }
            act(dear);
        }
        // These go on behind the 512th call, where answers are free: the class happens to answer as before.
        if (number % 8 == 0) {
            for (int i = 0; i < 12; i++) {
                act(true);
                askAll();
            }
        }
        while (calls < CALLS - 10) {
            ask();
        }
    }

    public static void main(String[] args) {
        int failed = 0;
        for (int number = 0; number < RUNS; number++) {
            int before = wrong;
            new ModelRuns().run(number);
            failed += wrong > before ? 1 : 0;
        }
        if (args.length > 0) {
            seen.forEach((call, times) -> System.out.println(call + ": " + times));
        }
        System.out.println("ModelRuns: " + (RUNS - failed) + " passed, " + failed + " failed");
        if (failed > 0) {
            System.exit(1);
        }
    }
}
