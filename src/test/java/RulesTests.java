import java.io.IOException;
import java.lang.management.ManagementFactory;
import java.lang.reflect.Array;
import java.lang.reflect.Constructor;
import java.lang.reflect.Field;
import java.lang.reflect.Method;
import java.lang.reflect.Modifier;
import java.nio.charset.StandardCharsets;
import java.nio.file.Files;
import java.nio.file.Path;
import java.util.ArrayDeque;
import java.util.Arrays;
import java.util.Collections;
import java.util.Deque;
import java.util.IdentityHashMap;
import java.util.List;
import java.util.Set;
import java.util.TreeSet;
import java.util.regex.Matcher;
import java.util.regex.Pattern;

/** The rules of LANGUAGE.md that a program can check: the face, what the file is written with, and the room. */
public final class RulesTests {
    private static int passed = 0;
    private static int failed = 0;

    private static void holds(String rule, boolean kept) {
        if (kept) {
            passed++;
        } else {
            failed++;
            System.out.println("not kept: " + rule);
        }
    }

    private static final Set<String> FACE = new TreeSet<>(List.of(
        "int event(int)", "int end()", "int addWish()", "int join(int,int,boolean)", "int removeWish(int)",
        "int type(char)", "int clearText()", "int undo()", "int keep()", "int restore()", "int wish(int,int)",
        "int letter(int,int,int)", "int part(int,int,int)", "int would(int,int)", "int bears(int,int)",
        "int open(int)", "int at(int)", "int count(int)"));

    private static String signature(Method method) {
        StringBuilder text = new StringBuilder(method.getReturnType() + " " + method.getName() + "(");
        for (Class<?> type : method.getParameterTypes()) {
            text.append(text.charAt(text.length() - 1) == '(' ? "" : ",").append(type);
        }
        return text.append(')').toString();
    }

    private static void face() {
        Set<String> found = new TreeSet<>();
        Set<String> names = new TreeSet<>();
        for (Method method : TimeWishes.class.getDeclaredMethods()) {
            if (Modifier.isPublic(method.getModifiers())) {
                found.add(signature(method));
                names.add(method.getName());
            } else {
                holds("1: private: " + method, Modifier.isPrivate(method.getModifiers()));
            }
        }
        holds("1: the methods of the document " + found, found.equals(FACE));
        Constructor<?>[] constructors = TimeWishes.class.getDeclaredConstructors();
        holds("1: one constructor", constructors.length == 1 && constructors[0].getParameterCount() == 0
            && Modifier.isPublic(constructors[0].getModifiers()));
        holds("1: final", Modifier.isFinal(TimeWishes.class.getModifiers()));
        Set<String> constants = new TreeSet<>();
        for (Field field : TimeWishes.class.getDeclaredFields()) {
            if (Modifier.isPublic(field.getModifiers())) {
                constants.add(field.getType() + " " + field.getName());
            } else {
                holds("1: private: " + field, Modifier.isPrivate(field.getModifiers()));
            }
        }
        holds("1: the constants of the document " + constants, constants.equals(Set.of(
            "int UNKNOWN", "int BAD_VALUE", "int FULL", "int NOT_POSSIBLE", "int NONE")));
        classes(names);
    }

    private static void classes(Set<String> publicNames) {
        Class<?>[] inside = TimeWishes.class.getDeclaredClasses();
        holds("11: at most twelve classes", inside.length < 12);
        for (Class<?> one : inside) {
            holds("1: private: " + one, Modifier.isPrivate(one.getModifiers()));
            holds("2: static: " + one, Modifier.isStatic(one.getModifiers()));
            for (Method method : one.getDeclaredMethods()) {
                holds("1: no name of a public method: " + method, !publicNames.contains(method.getName()));
            }
            fields(one);
        }
        for (Method method : TimeWishes.class.getDeclaredMethods()) {
            holds("1: no name of a public method: " + method, Modifier.isPublic(method.getModifiers())
                || !publicNames.contains(method.getName()));
            holds("11: at most seven parameters: " + method, method.getParameterCount() <= 7);
        }
        fields(TimeWishes.class);
    }

    private static void fields(Class<?> one) {
        int own = 0;
        for (Field field : one.getDeclaredFields()) {
            if (Modifier.isStatic(field.getModifiers())) {
                holds("5: final: " + field, Modifier.isFinal(field.getModifiers()));
            } else {
                own++;
            }
        }
        holds("11: at most twenty fields: " + one, own <= 20);
    }

    private static void source(Path file) throws IOException {
        String text = Files.readString(file, StandardCharsets.ISO_8859_1);
        holds("4: signs 1 to 127 alone", text.chars().allMatch(c -> c < 128));
        String code = text.replaceAll("(?s)/\\*.*?\\*/", "").replaceAll("//[^\n]*", "");
        for (String word : List.of("throw", "throws", "try", "catch", "synchronized", "assert", "import", "package",
            "instanceof", "interface", "enum", "record", "double", "float", "String", "Object", "native", "volatile")) {
            holds("no " + word, !Pattern.compile("\\b" + word + "\\b").matcher(code).find());
        }
        holds("2: no lambda", !code.contains("->"));
        holds("2: no method reference", !code.contains("::"));
        holds("6: no text", !code.contains("\""));
        Matcher library = Pattern.compile("\\b(System|Math|Integer|Long|Arrays|List)\\.\\w+").matcher(code);
        while (library.find()) {
            holds("4: " + library.group(), library.group().equals("System.arraycopy"));
        }
        Matcher named = Pattern.compile("\\bboolean(?:\\[\\])? (\\w+)").matcher(code);
        while (named.find()) {
            holds("10: && and || alone on " + named.group(1), !joinsByBits(code, named.group(1)));
        }
        for (String line : code.split("\n")) {
            holds("lines of 120 characters", line.length() <= 120);
        }
        holds("12: only constructors and fields make things", Pattern.compile("\\bnew ").matcher(code).results()
            .allMatch(found -> isMadeAtFirst(code, found.start())));
    }

    private static boolean joinsByBits(String code, String name) {
        return Pattern.compile("\\b" + name + "\\b(\\[\\w+\\]|\\([^()]*\\))? *([&|^]=|[&|^](?![&|]))"
            + "|(?<![&|])[&|^]=? *!?\\b" + name + "\\b").matcher(code).find();
    }

    private static boolean isMadeAtFirst(String code, int place) {
        String line = code.substring(code.lastIndexOf('\n', place) + 1, code.indexOf('\n', place)).trim();
        return line.startsWith("private ") || line.equals("history[i] = new State();")
            || line.equals("wishes[w] = new Wish();");
    }

    /** How many objects and arrays the object holds, and how many fields and elements these have. */
    private static long[] room(Object first) throws IllegalAccessException {
        Set<Object> known = Collections.newSetFromMap(new IdentityHashMap<>());
        Deque<Object> left = new ArrayDeque<>(List.of(first));
        long inAll = 0;
        while (!left.isEmpty()) {
            Object one = left.pop();
            if (!known.add(one)) {
                continue;
            }
            if (one.getClass().isArray()) {
                inAll += Array.getLength(one);
                if (one instanceof Object[] row) {
                    left.addAll(Arrays.asList(row));
                }
                continue;
            }
            for (Field field : one.getClass().getDeclaredFields()) {
                if (!Modifier.isStatic(field.getModifiers())) {
                    inAll++;
                    field.setAccessible(true);
                    if (!field.getType().isPrimitive()) {
                        left.push(field.get(one));
                    }
                }
            }
        }
        return new long[] {known.size(), inAll};
    }

    private static void dearCalls(TimeWishes x) {
        String text = "G(aUX(bRc))&F(d|N!e)&GF(a&Xf)|XXXGa";
        for (int round = 0; round < 8; round++) {
            x.clearText();
            for (int i = 0; i < text.length(); i++) {
                x.type(text.charAt(i));
            }
            x.addWish();
            x.event(round * 9);
            x.join(round, 0, round % 2 == 0);
            x.keep();
            x.bears(round, 0);
            x.bears(0, 2);
            x.would(0, 63);
            x.part(0, 0, 3);
            x.letter(0, 0, 3);
            x.restore();
            x.open(1);
            x.undo();
            x.wish(0, 6);
        }
        x.removeWish(0);
        x.end();
    }

    private static void roomOfCalls() throws IllegalAccessException {
        TimeWishes x = new TimeWishes();
        long[] before = room(x);
        System.out.println("an object holds " + before[0] + " objects and arrays with " + before[1]
            + " fields and elements");
        holds("the room: at most 1,000 objects and arrays", before[0] <= 1_000);
        holds("the room: at most 120,000 fields and elements", before[1] <= 120_000);
        com.sun.management.ThreadMXBean threads = (com.sun.management.ThreadMXBean) ManagementFactory.getThreadMXBean();
        dearCalls(new TimeWishes());
        long at = threads.getCurrentThreadAllocatedBytes();
        dearCalls(x);
        long made = threads.getCurrentThreadAllocatedBytes() - at;
        holds("the room: calls make nothing, but made " + made + " bytes", made < 4_096);
        holds("the room: calls keep nothing", Arrays.equals(before, room(x)));
    }

    private static final int[] ARGUMENTS = {Integer.MIN_VALUE, Integer.MIN_VALUE + 1, -65536, -129, -2, -1, 0, 1, 2, 3,
        7, 8, 9, 39, 40, 41, 60, 63, 64, 65, 119, 120, 121, 357, 358, 359, 360, 361, 959, 960, 961, 65535, 1 << 30,
        Integer.MAX_VALUE - 1, Integer.MAX_VALUE};
    private static final int STATES = 5;

    private static void add(TimeWishes x, String text) {
        x.clearText();
        for (char c : text.toCharArray()) {
            x.type(c);
        }
        x.addWish();
    }

    /** Eight parts of size 120, in a wish that is joined of others. */
    private static TimeWishes large() {
        TimeWishes x = new TimeWishes();
        String part = "G".repeat(6) + "X".repeat(10);
        add(x, part + "a&" + part + "b&" + part + "c");
        add(x, part + "d&" + part + "e&" + part + "f");
        add(x, part + "!a&" + part + "!b");
        x.join(0, 1, false);
        x.join(2, 3, false);
        x.keep();
        x.event(0);
        return x;
    }

    /** 8 wishes, 40 events, 60 characters and 4 states. */
    private static TimeWishes full() {
        TimeWishes x = new TimeWishes();
        for (int i = 0; i < 8; i++) {
            add(x, i % 2 == 0 ? "GFa&Xb" : "Ga|Nb");
        }
        for (int i = 0; i < 40; i++) {
            x.event(i);
        }
        x.keep();
        add(x, "X".repeat(60));
        return x;
    }

    private static TimeWishes state(int number) {
        TimeWishes x = number == 0 ? new TimeWishes() : number == 1 ? full() : large();
        if (number == 3) {
            x.end();
        } else if (number == 4) {
            x.removeWish(0);
            x.removeWish(4);
        }
        return x;
    }

    private static void callWith(TimeWishes x, int one, int other, int third) {
        x.wish(one, other);
        x.letter(one, other, third);
        x.part(one, other, third);
        x.would(one, other);
        x.bears(one, other);
        x.join(one, other, third > 0);
        x.open(one);
        x.at(other);
        x.count(third);
        x.event(one);
        x.removeWish(one);
        x.type((char) one);
        x.undo();
        x.restore();
        if (third == 0) {
            x.addWish();
            x.keep();
            x.clearText();
            x.end();
        }
    }

    private static void neverThrows() {
        for (int number = 0; number < STATES; number++) {
            String thrown = "";
            TimeWishes x = state(number);
            int calls = 0;
            for (int one : ARGUMENTS) {
                for (int other : ARGUMENTS) {
                    for (int third : ARGUMENTS) {
                        calls += 18;
                        if (calls > 300) {
                            x = state(number);
                            calls = 18;
                        }
                        try {
                            callWith(x, one, other, third);
                        } catch (RuntimeException machine) {
                            thrown = "with " + one + ", " + other + ", " + third + ": " + machine;
                        }
                    }
                }
            }
            holds("7: no call throws in state " + number + " " + thrown, thrown.isEmpty());
        }
    }

    public static void main(String[] args) throws IOException, IllegalAccessException {
        face();
        neverThrows();
        source(Path.of(args.length > 0 ? args[0] : "src/main/java/TimeWishes.java"));
        roomOfCalls();
        System.out.println("RulesTests: " + passed + " passed, " + failed + " failed");
        if (failed > 0) {
            System.exit(1);
        }
    }
}
