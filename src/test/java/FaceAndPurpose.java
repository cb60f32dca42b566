import java.io.IOException;
import java.io.UncheckedIOException;
import java.lang.reflect.Constructor;
import java.lang.reflect.Field;
import java.lang.reflect.Member;
import java.lang.reflect.Method;
import java.lang.reflect.Modifier;
import java.nio.file.Files;
import java.nio.file.Path;
import java.util.ArrayList;
import java.util.List;
import java.util.regex.Matcher;
import java.util.regex.Pattern;

/** The document's frame: its name, what it is, the public face, what the interface says, and what is not promised. */
final class FaceAndPurpose extends Sentences {

    static void run() {
        in("");
        sentence("# TimeWishes", () -> due("the class's name", TimeWishes.class.getName(), "TimeWishes"));
        in("What it is");
        rewrittenWishes();
        verdictsAndBlame();
        textsAndStates();
        saysNoMore("what later calls answer is free.");
        publicFace();
        for (String section : sections()) {
            if (section.startsWith("Promise ")) {
                in(section);
                sentences("`[^`]*\\([^)]*\\)`:", words -> faceHas(words.replaceAll("[`:]", "")));
            }
        }
        interfaceSays();
        in("Not promised");
        saysNoMore("How the state is held inside the object is free, as are the speed of each call, the text of toString "
            + "and the behaviour of equals and hashCode.");
        saysNoMore("Use of one object from several threads at once is not promised to be safe.");
        saysNoMore("Nothing is promised beyond the answers and state changes described above, and nothing about an "
            + "object after its 512th call.");
    }

    private static void rewrittenWishes() {
        sentence("Wishes about times that are checked along a run that ends some time: wishes of signs, next events, "
            + "until and as long as, which are rewritten by each event into what is left to be wished", () -> {
            TimeWishes x = with("a&Xb&(cUd)&(eRf)", "Gf");
            due("as they came", parts(x, 0) + ", " + parts(x, 1), "(cUd) (eRf) Xb a, (0Rf)");
            due("behind a, c and f", x.event(1 + 4 + 32), 0);
            due("is left", parts(x, 0) + ", " + parts(x, 1), "(cUd) (eRf) (>&b) 1, (0Rf)");
            due("behind b, d, e and f", x.event(2 + 8 + 16 + 32), 1);
            due("is left", parts(x, 0) + ", " + parts(x, 1), "1 1 1 1, (0Rf)");
            due("the run ends with f as long as it went", x.end(), 1);
            due("is left", parts(x, 0) + ", " + parts(x, 1), "1 1 1 1, 1");
        });
        sentence("wishes that are joined", () -> {
            TimeWishes x = with("Gb", "Fa");
            due("all of both", parts(x, x.join(0, 1, false)), "(0Rb) (1Ua)");
            due("any of both", parts(x, x.join(0, 1, true)), "((0Rb)|(1Ua))");
        });
        sentence("events that a wish can bear", () -> {
            TimeWishes x = with("a&!f");
            due("16 events with a and without f", x.bears(0, 0), 16);
            due("a alone is the least one", x.bears(0, 1), 1);
        });
    }

    private static void verdictsAndBlame() {
        sentence("verdicts that never change later", () -> {
            TimeWishes x = with("a", "!a", "0", "1", "Gb", "Fc");
            x.event(1);
            due("decided by the first event or as they came", verdicts(x), "100102");
            for (int set = 0; set < 38; set++) {
                x.event(set);
                due("behind event " + set, verdicts(x), set < 4 ? "100102" : "100101");
            }
            x.end();
            due("behind the end", verdicts(x), "100101");
        });
        sentence("what would be if the run ended now", () -> {
            endsAs("Ga", 1);
            endsAs("Ga", 1, 1, 1);
            endsAs("Ga", 0, 1, 0);
            endsAs("Fa", 0);
            endsAs("Fa", 1, 0, 1);
            endsAs("aUb", 0, 1, 1);
            endsAs("Xa", 0, 1);
            endsAs("Na", 1, 1);
            endsAs("GFa", 1, 1);
            endsAs("GFa", 0, 1, 0);
            endsAs("Ga&Fb", 0, 1);
            endsAs("Ga&Fb", 1, 1, 3);
        });
        sentence("who is to blame when a wish is broken (which part of it, which event, which signs of it)", () -> {
            TimeWishes x = with("Ga&Fb&X!c");
            events(x, 1, 1 + 4);
            due("the parts", parts(x, 0), "(0Ra) (1Ub) 0");
            due("the third part", x.wish(0, 2), 4);
            due("the event at time 1", x.wish(0, 4), 1);
            due("the sign c", x.wish(0, 5), 4);
        });
    }

    private static String verdicts(TimeWishes x) {
        StringBuilder row = new StringBuilder();
        int wishes = x.count(3);
        for (int w = 0; w < wishes; w++) {
            row.append(x.wish(w, 0));
        }
        return row.toString();
    }

    private static void endsAs(String wish, int verdict, int... sets) {
        TimeWishes x = with(wish);
        events(x, sets);
        due(wish + " if it ended now", x.wish(0, 6), verdict);
        due(wish + " then is not ended", x.count(1), 0);
        x.end();
        due(wish + " behind the end", x.wish(0, 0), verdict);
    }

    private static void textsAndStates() {
        sentence("rewritten wishes as texts in one form", () -> {
            TimeWishes x = with("X(b&a)|c|Xd", "Xd|(0|c)|X(a&b&1)");
            due("the one", parts(x, 0), "(X(a&b)|Xd|c)");
            due("the other one", parts(x, 1), "(X(a&b)|Xd|c)");
            x.event(0);
            due("the one behind an event", parts(x, 0), "((>&a&b)|(>&d))");
            due("the other one behind it", parts(x, 1), "((>&a&b)|(>&d))");
        });
        sentence("wishes that are read from a text with the places of faults", () -> {
            reads("!(aUXb)|c", "((-aRN-b)|c)");
            faultIs("a&(bU", 5);
            faultIs("a&(bU)", 5);
            faultIs("a&(bUg)", 5);
            faultIs("a-(bUc)", 1);
        });
        sentence("undo and a snapshot.", () -> {
            TimeWishes x = with("Ga");
            x.keep();
            events(x, 1, 0);
            due("broken", x.wish(0, 0), 0);
            due("undone", x.undo() * 10 + x.wish(0, 0), 22);
            due("the snapshot without events", x.restore() * 10 + x.count(0), 0);
        });
    }

    private static void publicFace() {
        in("The public face");
        sentence("public final class TimeWishes {", () -> due("its modifiers",
            Modifier.toString(TimeWishes.class.getModifiers()), "public final"));
        sentences("public static final int \\w+ = -?\\d+;", FaceAndPurpose::constant);
        sentences("public (int )?\\w+\\([^)]*\\);", words -> faceHas(words.replaceAll("public |;", "")));
        sentence("```java", () -> {
            due("methods for others", notPrivate(TimeWishes.class.getDeclaredMethods()), 18);
            due("fields for others", notPrivate(TimeWishes.class.getDeclaredFields()), 5);
            due("constructors for others", notPrivate(TimeWishes.class.getDeclaredConstructors()), 1);
        });
    }

    private static int notPrivate(Member... members) {
        int found = 0;
        for (Member one : members) {
            found += Modifier.isPrivate(one.getModifiers()) ? 0 : 1;
        }
        return found;
    }

    private static void constant(String words) {
        String[] of = words.replaceAll("public static final int |;", "").split(" = ");
        String got = "none";
        try {
            Field field = TimeWishes.class.getField(of[0]);
            got = Modifier.toString(field.getModifiers()) + " " + field.getType() + " " + field.getInt(null);
        } catch (ReflectiveOperationException missing) {
            got = missing.toString();
        }
        due("the constant", got, "public static final int " + of[1]);
    }

    /** The declaration as the document has it: int would(int wish, int set). */
    private static void faceHas(String declaration) {
        String wanted = declaration.replaceAll("(\\w+) \\w+([,)])", "$1$2").replace(", ", ",");
        List<String> found = new ArrayList<>();
        for (Method one : TimeWishes.class.getMethods()) {
            found.add(one.getReturnType() + " " + one.getName() + types(one.getParameterTypes()));
        }
        for (Constructor<?> one : TimeWishes.class.getConstructors()) {
            found.add(one.getName() + types(one.getParameterTypes()));
        }
        due("whether there is " + wanted, found.contains(wanted) ? 1 : 0, 1);
    }

    private static String types(Class<?>... parameters) {
        List<String> names = new ArrayList<>();
        for (Class<?> one : parameters) {
            names.add(one.getName());
        }
        return "(" + String.join(",", names) + ")";
    }

    private static void interfaceSays() {
        in("ERRORS");
        sentences("Ahead of the calls [^:]*: ---- [^.]*\\.", words -> {
            String heading = words.substring(words.indexOf("----"), words.length() - 1);
            String calls = words.substring("Ahead of the calls ".length(), words.indexOf(" the interface"));
            due("the calls behind " + heading, callsBehind(heading), calls.replaceAll("[`,]", ""));
        });
        due("how many headings there are", callsBehind("").split(" ").length, 18);
    }

    /** The public methods of the class's text, in their order, from the heading (or the beginning) to the next one. */
    private static String callsBehind(String heading) {
        List<String> names = new ArrayList<>();
        boolean due = heading.isEmpty();
        Matcher line = Pattern.compile("(?m)^    (// (---- .*)|public int (\\w+)\\(.*)$").matcher(source());
        while (line.find()) {
            if (line.group(3) == null) {
                due = heading.isEmpty() || line.group(2).equals(heading);
            } else if (due) {
                names.add(line.group(3));
            }
        }
        return String.join(" ", names);
    }

    private static String source() {
        try {
            return Files.readString(Path.of("src/main/java/TimeWishes.java"));
        } catch (IOException missing) {
            throw new UncheckedIOException(missing);
        }
    }
}
