import java.util.ArrayDeque;
import java.util.ArrayList;
import java.util.Deque;
import java.util.List;
import java.util.TreeMap;

/** The document in its plainest form, with the Java library, slow: what the class is compared with. */
final class PlainModel {

    /** A form, told apart by its text alone. */
    static final class Form {
        final String kind;
        final List<Form> of;
        final String text;
        final int size;

        Form(String kind, List<Form> of) {
            this.kind = kind;
            this.of = of;
            StringBuilder t = new StringBuilder();
            int sum = 1;
            if (of.isEmpty()) {
                t.append(kind);
            } else if (of.size() == 1) {
                t.append(kind).append(of.get(0).text);
            } else {
                t.append('(');
                for (int i = 0; i < of.size(); i++) {
                    t.append(i == 0 ? "" : kind).append(of.get(i).text);
                }
                t.append(')');
            }
            for (Form f : of) {
                sum += f.size;
            }
            this.text = t.toString();
            this.size = sum;
        }

        boolean is(String other) {
            return kind.equals(other);
        }
    }

    static Form leaf(String text) {
        return new Form(text, List.of());
    }

    static final Form TRUE = leaf("1");
    static final Form FALSE = leaf("0");
    static final Form MORE = leaf(">");
    static final Form OVER = leaf(".");

    static Form put(String kind, List<Form> forms) {
        String left = kind.equals("&") ? "1" : "0";
        String strong = kind.equals("&") ? "0" : "1";
        TreeMap<String, Form> among = new TreeMap<>();
        for (Form f : forms) {
            for (Form g : f.is(kind) ? f.of : List.of(f)) {
                if (!g.text.equals(left)) {
                    among.put(g.text, g);
                }
            }
        }
        boolean clash = among.containsKey(strong) || (among.containsKey(">") && among.containsKey("."));
        for (char c = 'a'; c <= 'f'; c++) {
            clash |= among.containsKey("" + c) && among.containsKey("-" + c);
        }
        if (clash) {
            return leaf(strong);
        }
        if (among.isEmpty()) {
            return leaf(left);
        }
        return among.size() == 1 ? among.firstEntry().getValue() : new Form(kind, new ArrayList<>(among.values()));
    }

    static Form after(Form f, int set) {
        switch (f.kind) {
            case "0": case "1": return f;
            case ">": return TRUE;
            case ".": return FALSE;
            case "X": return put("&", List.of(MORE, f.of.get(0)));
            case "N": return put("|", List.of(OVER, f.of.get(0)));
            case "U": return put("|", List.of(after(f.of.get(1), set), put("&", List.of(after(f.of.get(0), set), f))));
            case "R": return put("&", List.of(after(f.of.get(1), set), put("|", List.of(after(f.of.get(0), set), f))));
            case "&": case "|": {
                List<Form> become = new ArrayList<>();
                for (Form g : f.of) {
                    become.add(after(g, set));
                }
                return put(f.kind, become);
            }
            default: {
                boolean in = (set >> (f.text.charAt(f.text.length() - 1) - 'a') & 1) == 1;
                return in == (f.text.length() == 1) ? TRUE : FALSE;
            }
        }
    }

    static boolean atEnd(Form f) {
        switch (f.kind) {
            case "1": case ".": case "N": case "R": return true;
            case "0": case ">": case "X": case "U": return false;
            case "&": return f.of.stream().allMatch(PlainModel::atEnd);
            case "|": return f.of.stream().anyMatch(PlainModel::atEnd);
            default: return f.text.length() == 2;
        }
    }

    static Form opposite(Form f) {
        List<Form> others = new ArrayList<>();
        for (Form g : f.of) {
            others.add(opposite(g));
        }
        switch (f.kind) {
            case "0": return TRUE;
            case "1": return FALSE;
            case "X": return new Form("N", others);
            case "N": return new Form("X", others);
            case "U": return new Form("R", others);
            case "R": return new Form("U", others);
            case "&": return put("|", others);
            case "|": return put("&", others);
            default: return f.text.length() == 2 ? leaf(f.text.substring(1)) : leaf("-" + f.text);
        }
    }

    static int signs(Form f) {
        int set = 0;
        for (char c = 'a'; c <= 'f'; c++) {
            if (f.text.indexOf(c) >= 0) {
                set |= 1 << (c - 'a');
            }
        }
        return set;
    }

    /** The grammar, read downwards as the document has it; a fault is thrown. */
    static final class Grammar {
        static final class Fault extends Exception {
            private static final long serialVersionUID = 1L;
        }

        final String text;
        int place = 0;

        Grammar(String text) {
            this.text = text;
        }

        char next() {
            return place < text.length() ? text.charAt(place) : '\uffff';
        }

        Form whole() throws Fault {
            Form f = text(0);
            if (place < text.length()) {
                throw new Fault();
            }
            return f;
        }

        Form text(int depth) throws Fault {
            List<Form> rows = new ArrayList<>();
            rows.add(row(depth));
            while (next() == '|') {
                place++;
                rows.add(row(depth));
            }
            return put("|", rows);
        }

        Form row(int depth) throws Fault {
            List<Form> items = new ArrayList<>();
            items.add(item(depth));
            while (next() == '&') {
                place++;
                items.add(item(depth));
            }
            return put("&", items);
        }

        Form item(int depth) throws Fault {
            Form f = thing(depth);
            char c = next();
            if (c == 'U' || c == 'R') {
                place++;
                return new Form("" + c, List.of(f, item(depth)));
            }
            return f;
        }

        Form thing(int depth) throws Fault {
            char c = next();
            if ("abcdef10".indexOf(c) >= 0) {
                place++;
                return leaf("" + c);
            }
            if ("!XNGF".indexOf(c) >= 0) {
                place++;
                Form f = thing(depth);
                switch (c) {
                    case '!': return opposite(f);
                    case 'G': return new Form("R", List.of(FALSE, f));
                    case 'F': return new Form("U", List.of(TRUE, f));
                    default: return new Form("" + c, List.of(f));
                }
            }
            if (c != '(' || depth == 4) {
                throw new Fault();
            }
            place++;
            Form f = text(depth + 1);
            if (next() != ')') {
                throw new Fault();
            }
            place++;
            return f;
        }
    }

    /** Never changed once it is made: each act makes new ones. */
    record Wish(boolean there, int verdict, List<Form> parts, int time, int blame, int came) {
        int size() {
            return parts.stream().mapToInt(f -> f.size).sum();
        }

        int set(String text) {
            int set = 0;
            for (int p = 0; p < parts.size(); p++) {
                set |= parts.get(p).text.equals(text) ? 1 << p : 0;
            }
            return set;
        }

        boolean isOpen() {
            return there && verdict == 2;
        }
    }

    record State(List<Integer> events, boolean ended, List<Wish> wishes) { }

    State now = new State(List.of(), false, List.of());
    State snapshot = null;
    final Deque<State> history = new ArrayDeque<>();
    String text = "";

    static int verdict(List<Form> parts) {
        if (parts.stream().anyMatch(f -> f.is("0"))) {
            return 0;
        }
        return parts.stream().allMatch(f -> f.is("1")) ? 1 : 2;
    }

    static List<Form> after(List<Form> parts, int set) {
        return parts.stream().map(f -> after(f, set)).toList();
    }

    void act(State next) {
        history.addLast(now);
        if (history.size() > 4) {
            history.removeFirst();
        }
        now = next;
    }

    Wish find(int wish) {
        return wish >= 0 && wish < now.wishes.size() && now.wishes.get(wish).there ? now.wishes.get(wish) : null;
    }

    int event(int set) {
        if (set < 0 || set > 63) {
            return -2;
        }
        if (now.ended) {
            return -4;
        }
        if (now.events.size() == 40) {
            return -3;
        }
        List<Wish> wishes = new ArrayList<>();
        int got = 0;
        for (Wish w : now.wishes) {
            if (!w.there) {
                wishes.add(w);
                continue;
            }
            List<Form> parts = after(w.parts, set);
            if (parts.stream().anyMatch(f -> f.size > 120)) {
                return -3;
            }
            int verdict = w.verdict == 2 ? verdict(parts) : w.verdict;
            int time = w.time;
            int blame = w.blame;
            if (w.verdict == 2 && verdict != 2) {
                got++;
                time = now.events.size();
                for (int s = 0; s < 6 && verdict == 0; s++) {
                    blame |= verdict(after(w.parts, set ^ 1 << s)) != 0 ? 1 << s : 0;
                }
            }
            wishes.add(new Wish(true, verdict, parts, time, blame, w.came));
        }
        List<Integer> events = new ArrayList<>(now.events);
        events.add(set);
        act(new State(events, false, wishes));
        return got;
    }

    int end() {
        if (now.ended) {
            return -4;
        }
        List<Wish> wishes = new ArrayList<>();
        int got = 0;
        for (Wish w : now.wishes) {
            if (w.isOpen()) {
                List<Form> parts = w.parts.stream().map(f -> atEnd(f) ? TRUE : FALSE).toList();
                got += verdict(parts);
                wishes.add(new Wish(true, verdict(parts), parts, w.time, w.blame, w.came));
            } else {
                wishes.add(w);
            }
        }
        act(new State(now.events, true, wishes));
        return got;
    }

    int addWish() {
        Grammar grammar = new Grammar(text);
        Form form;
        try {
            form = grammar.whole();
        } catch (Grammar.Fault fault) {
            return -100 - grammar.place;
        }
        return now.ended ? -4 : bring(form);
    }

    int join(int one, int other, boolean any) {
        Wish a = find(one);
        Wish b = find(other);
        if (a == null || b == null) {
            return -1;
        }
        return now.ended ? -4 : bring(put(any ? "|" : "&", List.of(put("&", a.parts), put("&", b.parts))));
    }

    int bring(Form form) {
        List<Form> parts = form.is("&") ? form.of : List.of(form);
        if (now.wishes.size() == 8 || parts.size() > 8 || parts.stream().anyMatch(f -> f.size > 120)) {
            return -3;
        }
        List<Wish> wishes = new ArrayList<>(now.wishes);
        wishes.add(new Wish(true, verdict(parts), parts, -5, 0, now.events.size()));
        act(new State(now.events, false, wishes));
        return wishes.size() - 1;
    }

    int removeWish(int wish) {
        Wish w = find(wish);
        if (w == null) {
            return -1;
        }
        List<Wish> wishes = new ArrayList<>(now.wishes);
        wishes.set(wish, new Wish(false, w.verdict, w.parts, w.time, w.blame, w.came));
        act(new State(now.events, now.ended, wishes));
        return count(2);
    }

    int type(char character) {
        if (text.length() == 60) {
            return -3;
        }
        text += character;
        return text.length();
    }

    int clearText() {
        int length = text.length();
        text = "";
        return length;
    }

    int undo() {
        if (history.isEmpty()) {
            return -5;
        }
        now = history.removeLast();
        return history.size();
    }

    int keep() {
        snapshot = now;
        return now.events.size();
    }

    int restore() {
        if (snapshot == null) {
            return -5;
        }
        act(snapshot);
        return now.events.size();
    }

    int wish(int wish, int what) {
        Wish w = find(wish);
        if (w == null) {
            return -1;
        }
        boolean holds = w.parts.stream().allMatch(PlainModel::atEnd);
        int[] told = {w.verdict, w.parts.size(), w.set("0"), w.set("1"), w.time, w.blame,
            w.verdict != 2 ? w.verdict : holds ? 1 : 0, w.size(), w.came};
        return what < 0 || what > 8 ? -2 : told[what];
    }

    int letter(int wish, int part, int place) {
        Wish w = find(wish);
        if (w == null || part < 0 || part >= w.parts.size()) {
            return -1;
        }
        String letters = w.parts.get(part).text;
        return place < 0 ? -2 : place < letters.length() ? letters.charAt(place) : -5;
    }

    int part(int wish, int part, int what) {
        Wish w = find(wish);
        if (w == null || part < 0 || part >= w.parts.size()) {
            return -1;
        }
        Form f = w.parts.get(part);
        int[] told = {f.size, f.text.length(), signs(f), atEnd(f) ? 1 : 0};
        return what < 0 || what > 3 ? -2 : told[what];
    }

    int would(int wish, int set) {
        Wish w = find(wish);
        if (w == null) {
            return -1;
        }
        if (set < 0 || set > 63) {
            return -2;
        }
        return now.ended ? -4 : w.verdict != 2 ? w.verdict : verdict(after(w.parts, set));
    }

    int bears(int wish, int what) {
        if (find(wish) == null) {
            return -1;
        }
        if (what < 0 || what > 3) {
            return -2;
        }
        if (now.ended) {
            return -4;
        }
        List<Integer> sets = new ArrayList<>();
        for (int set = 0; set < 64; set++) {
            int verdict = would(wish, set);
            if (what < 2 ? verdict != 0 : verdict == 1) {
                sets.add(set);
            }
        }
        return what % 2 == 0 ? sets.size() : sets.isEmpty() ? -5 : sets.get(0);
    }

    int open(int rank) {
        if (rank < 0) {
            return -2;
        }
        List<Integer> row = new ArrayList<>();
        for (int w = 0; w < now.wishes.size(); w++) {
            if (now.wishes.get(w).isOpen()) {
                row.add(w);
            }
        }
        row.sort((v, w) -> now.wishes.get(w).size() - now.wishes.get(v).size());
        return rank < row.size() ? row.get(rank) : -5;
    }

    int at(int time) {
        return time < 0 ? -2 : time < now.events.size() ? now.events.get(time) : -5;
    }

    int count(int what) {
        int[] told = {now.events.size(), now.ended ? 1 : 0, 0, now.wishes.size(), 0, 0, 0, history.size(),
            text.length()};
        int[] ofVerdict = {5, 6, 4};
        for (Wish w : now.wishes) {
            told[2] += w.there ? 1 : 0;
            told[ofVerdict[w.verdict]] += w.there ? 1 : 0;
        }
        return what < 0 || what > 8 ? -2 : told[what];
    }
}
