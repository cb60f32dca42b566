import java.io.IOException;
import java.nio.charset.StandardCharsets;
import java.nio.file.Files;
import java.nio.file.Path;
import java.util.LinkedHashMap;
import java.util.Map;
import java.util.Set;
import java.util.TreeSet;

/** Tests that bear the sentence of the document that they test; it must stand in its section, word by word. */
class Sentences extends Checks {
    private static final Map<String, StringBuilder> document = new LinkedHashMap<>();
    private static final Set<String> tested = new TreeSet<>();
    private static String section = "";
    private static int held = 0;
    private static int broken = 0;

    /** A section is a promise, a term (whose name stands on a line of its own in capitals), or another heading. */
    static void readDocument(Path file) throws IOException {
        String name = "";
        for (String line : Files.readString(file, StandardCharsets.UTF_8).split("\n")) {
            if (line.startsWith("## ")) {
                name = line.substring(3);
            } else if (line.matches("[A-Z]+")) {
                name = line;
            } else {
                document.computeIfAbsent(name, n -> new StringBuilder()).append(line.trim()).append(' ');
            }
        }
    }

    /** The sentences that follow stand in this section. */
    static void in(String name) {
        section = name;
    }

    static void sentence(String words, Runnable test) {
        int before = failedSoFar();
        tellAbout(section + ", \"" + words + "\": ");
        boolean stands = document.containsKey(section)
            && document.get(section).toString().replaceAll("\\s+", " ").contains(words);
        due("whether the document says it there", stands ? 1 : 0, 1);
        try {
            test.run();
        } catch (RuntimeException thrown) {
            due("what was thrown", thrown.toString(), "nothing");
        }
        if (failedSoFar() == before) {
            held++;
        } else {
            broken++;
        }
        tested.add(section);
    }

    /** Tells how many sentences hold; a section without a test counts as one that doesn't. */
    static boolean allHold(String name, Set<String> sections) {
        for (String one : sections) {
            if (!tested.contains(one)) {
                broken++;
                System.out.println("no sentence is tested of " + one);
            }
        }
        System.out.println(name + ": " + held + " passed, " + broken + " failed (with " + passedSoFar() + " answers)");
        return broken == 0;
    }

    /** The sections that the tests must name: the terms that the promises lean on, and all promises. */
    static Set<String> sectionsToTest() {
        Set<String> names = new TreeSet<>(
            Set.of("EVENTS", "FORMS", "REWRITING", "WISHES", "TEXTS", "HISTORY", "ERRORS"));
        for (String name : document.keySet()) {
            if (name.startsWith("Promise ")) {
                names.add(name);
            }
        }
        return names;
    }

    static String times(int n, String text) {
        return text.repeat(n);
    }

    /** The verdict of the one wish behind the events. */
    static int verdict(String wish, int... sets) {
        TimeWishes x = with(wish);
        events(x, sets);
        return x.wish(0, 0);
    }

    static TimeWishes behindEvents(int n) {
        TimeWishes x = new TimeWishes();
        for (int i = 0; i < n; i++) {
            x.event(i);
        }
        return x;
    }

    /** Eight wishes: a, b, c, d, e, f, Xa, Xb. */
    static TimeWishes withEight() {
        return with("a", "b", "c", "d", "e", "f", "Xa", "Xb");
    }

    /** The counts of 0 to 8; the events; the verdict and the parts of each wish, or - if it was removed. */
    static String digest(TimeWishes x) {
        StringBuilder told = new StringBuilder();
        for (int what = 0; what <= 8; what++) {
            told.append(what > 0 ? "," : "").append(x.count(what));
        }
        told.append(';');
        for (int time = 0; x.at(time) >= 0; time++) {
            told.append(' ').append(x.at(time));
        }
        for (int w = 0; w < x.count(3); w++) {
            int verdict = x.wish(w, 0);
            told.append("; ").append(verdict < 0 ? "-" : verdict + " " + parts(x, w));
        }
        return told.toString();
    }
}
