import java.io.IOException;
import java.nio.charset.StandardCharsets;
import java.nio.file.Files;
import java.nio.file.Path;
import java.util.ArrayList;
import java.util.LinkedHashMap;
import java.util.LinkedHashSet;
import java.util.List;
import java.util.Map;
import java.util.Set;
import java.util.function.Consumer;
import java.util.regex.Matcher;
import java.util.regex.Pattern;

/** Tests that bear the sentence of the document that they test; it must stand in its section, word by word. */
class Sentences extends Checks {
    private static final Map<String, String> document = new LinkedHashMap<>();
    /** By section: the document's text, with a blank in place of each character that a sentence bears. */
    private static final Map<String, StringBuilder> left = new LinkedHashMap<>();
    private static final Set<String> tested = new LinkedHashSet<>();
    private static String section = "";
    private static int held = 0;
    private static int broken = 0;

    /** A section is a promise, a term (whose name stands on a line of its own in capitals), or another heading. */
    static void readDocument(Path file) throws IOException {
        String name = "";
        for (String line : Files.readString(file, StandardCharsets.UTF_8).split("\n")) {
            if (line.startsWith("## ")) {
                name = line.substring(3);
            } else if (line.matches("[A-Z]+")) {
                name = line;
            } else {
                document.merge(name, line.trim() + " ", String::concat);
            }
        }
        document.replaceAll((section, text) -> text.replaceAll("\\s+", " "));
        document.forEach((section, text) -> left.put(section, new StringBuilder(text)));
    }

    /** The sentences that follow stand in this section. */
    static void in(String name) {
        section = name;
    }

    static void sentence(String words, Runnable test) {
        int before = failedSoFar();
        tellAbout(section + ", \"" + words + "\": ");
        due("whether the document says it there", bear(words) ? 1 : 0, 1);
        try {
            test.run();
        } catch (RuntimeException thrown) {
            due("what was thrown", thrown.toString(), "nothing");
        }
        if (failedSoFar() == before) {
            held++;
        } else {
            broken++;
        }
        tested.add(section);
    }

    /** One sentence for each place of the section where this stands. */
    static void sentences(String pattern, Consumer<String> test) {
        List<String> found = new ArrayList<>();
        Matcher matcher = Pattern.compile(pattern).matcher(document.getOrDefault(section, ""));
        while (matcher.find()) {
            found.add(matcher.group());
        }
        for (String words : found) {
            sentence(words, () -> test.accept(words));
        }
    }

    /** Words of the section that lead to others, or that say what is free. */
    static void saysNoMore(String words) {
        sentence(words, () -> { });
    }

    private static boolean bear(String words) {
        StringBuilder rest = left.get(section);
        int place = rest == null ? -1 : document.get(section).indexOf(words);
        boolean stands = place >= 0;
        while (place >= 0) {
            rest.replace(place, place + words.length(), " ".repeat(words.length()));
            place = document.get(section).indexOf(words, place + 1);
        }
        return stands;
    }

    /** Tells how many sentences hold; words of the document without a test count as a sentence that doesn't. */
    static boolean allHold(String name) {
        left.forEach((one, rest) -> {
            for (String words : rest.toString().split(" {2,}")) {
                if (words.matches(".*\\w.*")) {
                    broken++;
                    System.out.println("not tested: " + one + ", \"" + words + "\"");
                }
            }
        });
        System.out.println(name + ": " + held + " passed, " + broken + " failed (" + tested.size() + " sections, "
            + passedSoFar() + " answers)");
        return broken == 0;
    }

    static Set<String> sections() {
        return document.keySet();
    }

    static String times(int n, String text) {
        return text.repeat(n);
    }

    /** The verdict of the one wish behind the events. */
    static int verdict(String wish, int... sets) {
        TimeWishes x = with(wish);
        events(x, sets);
        return x.wish(0, 0);
    }

    static TimeWishes behindEvents(int n) {
        TimeWishes x = new TimeWishes();
        for (int i = 0; i < n; i++) {
            x.event(i);
        }
        return x;
    }

    /** Eight wishes: a, b, c, d, e, f, Xa, Xb. */
    static TimeWishes withEight() {
        return with("a", "b", "c", "d", "e", "f", "Xa", "Xb");
    }

    /** The counts of 0 to 8; the events; the verdict and the parts of each wish, or - if it was removed. */
    static String digest(TimeWishes x) {
        StringBuilder told = new StringBuilder();
        for (int what = 0; what <= 8; what++) {
            told.append(what > 0 ? "," : "").append(x.count(what));
        }
        told.append(';');
        for (int time = 0; x.at(time) >= 0; time++) {
            told.append(' ').append(x.at(time));
        }
        for (int w = 0; w < x.count(3); w++) {
            int verdict = x.wish(w, 0);
            told.append("; ").append(verdict < 0 ? "-" : verdict + " " + parts(x, w));
        }
        return told.toString();
    }
}
