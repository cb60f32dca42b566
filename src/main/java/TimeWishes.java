/**
 * Wishes about times that are checked along a run that ends some time.
 *
 * Nothing is made after the constructor: each call works in rows that are there already, because all
 * calls of a run share one room.
 */
public final class TimeWishes {

    public static final int UNKNOWN = -1;
    public static final int BAD_VALUE = -2;
    public static final int FULL = -3;
    public static final int NOT_POSSIBLE = -4;
    public static final int NONE = -5;

    private static final int FAULT = -100;

    private static final int SIGNS = 6;
    private static final int SETS = 64;
    private static final int MOST_EVENTS = 40;
    private static final int MOST_WISHES = 8;
    private static final int MOST_PARTS = 8;
    private static final int MOST_SIZE = 120;
    private static final int MOST_TEXT = 60;
    private static final int MOST_BRACKETS = 4;
    private static final int MOST_STATES = 4;

    private static final int BROKEN = 0;
    private static final int FULFILLED = 1;
    private static final int OPEN = 2;

    // The forms of size 1 have fixed numbers, which are their kinds, too.
    private static final int FALSE = 0;
    private static final int TRUE = 1;
    private static final int MORE = 2;
    private static final int OVER = 3;
    private static final int SIGN = 4;
    private static final int OPPOSITE = 10;
    private static final int LEAVES = 16;
    private static final int BOTH_ENDS = (1 << MORE) | (1 << OVER);

    private static final int NEXT = 16;
    private static final int WEAK_NEXT = 17;
    private static final int UNTIL = 18;
    private static final int AS_LONG_AS = 19;
    private static final int ALL = 20;
    private static final int ANY = 21;

    // A form is kept as codes: a kind in the low bits, how many forms it is made of directly above them.
    private static final int KIND_BITS = 5;
    private static final int KIND_MASK = 31;

    private static final char[] LEAF_LETTERS = {
        '0', '1', '>', '.', 'a', 'b', 'c', 'd', 'e', 'f', 'a', 'b', 'c', 'd', 'e', 'f'
    };
    // By kind; only forms in brackets have one.
    private static final char[] SEPARATORS = {
        ' ', ' ', ' ', ' ', ' ', ' ', ' ', ' ', ' ', ' ', ' ', ' ', ' ', ' ', ' ', ' ',
        ' ', ' ', 'U', 'R', '&', '|'
    };

    // Joining two wishes of 8 parts of size 120 needs most forms: under 1,940.
    private static final int NODES = 2048;
    // Rewriting one part of size 120 needs most kids: under 7,520.
    private static final int KIDS = 8192;
    private static final int SLOTS = 512;
    // A form of size 120 has at most 3 * 120 - 2 characters.
    private static final int LETTERS = 360;

    private final Forms forms = new Forms();
    private final Changes changes = new Changes(forms);
    private final Scribe scribe = new Scribe(forms);
    private final Reader reader = new Reader(forms, changes);
    private final int[] outcomes = new int[SETS];
    private final int[] partOutcomes = new int[SETS];

    private final State[] history = new State[MOST_STATES];
    private final State snapshot = new State();
    private State now = new State();
    private State spare = new State();
    private int states;
    private boolean kept;

    public TimeWishes() {
        for (int i = 0; i < MOST_STATES; i++) {
            history[i] = new State();
        }
    }

    // ---- the run

    public int event(int set) {
        if (set < 0 || set >= SETS) {
            return BAD_VALUE;
        }
        if (now.ended) {
            return NOT_POSSIBLE;
        }
        if (now.events >= MOST_EVENTS) {
            return FULL;
        }
        State next = spare;
        next.copyFrom(now);
        int decided = 0;
        for (int w = 0; w < now.wishesSoFar; w++) {
            Wish before = now.wishes[w];
            Wish after = next.wishes[w];
            if (before.there) {
                if (!rewriteParts(before, after, set)) {
                    return FULL;
                }
                if (before.verdict == OPEN && after.judge(now.events)) {
                    after.blame = after.verdict == BROKEN ? signsToBlame(before, set) : 0;
                    decided++;
                }
            }
        }
        next.sets[next.events] = set;
        next.events++;
        recordAndGoOn();
        return decided;
    }

    public int end() {
        if (now.ended) {
            return NOT_POSSIBLE;
        }
        State next = spare;
        next.copyFrom(now);
        next.ended = true;
        int fulfilled = 0;
        for (int w = 0; w < next.wishesSoFar; w++) {
            Wish one = next.wishes[w];
            if (one.there && one.verdict == OPEN) {
                endParts(one);
                one.verdict = one.verdictOfParts();
                fulfilled += one.verdict;
            }
        }
        recordAndGoOn();
        return fulfilled;
    }

    // ---- wishes

    public int addWish() {
        int fault = reader.findFault();
        if (fault >= 0) {
            return FAULT - fault;
        }
        if (now.ended) {
            return NOT_POSSIBLE;
        }
        forms.release(LEAVES);
        return bring(reader.read());
    }

    public int join(int one, int other, boolean any) {
        Wish first = now.find(one);
        Wish second = now.find(other);
        if (first == null || second == null) {
            return UNKNOWN;
        }
        if (now.ended) {
            return NOT_POSSIBLE;
        }
        forms.release(LEAVES);
        int firstForm = allOfParts(first);
        int secondForm = allOfParts(second);
        return bring(changes.two(any ? ANY : ALL, firstForm, secondForm));
    }

    public int removeWish(int wish) {
        if (now.find(wish) == null) {
            return UNKNOWN;
        }
        State next = spare;
        next.copyFrom(now);
        next.wishes[wish].there = false;
        recordAndGoOn();
        return now.howManyThere();
    }

    // ---- texts

    public int type(char character) {
        return reader.append(character) ? reader.length : FULL;
    }

    public int clearText() {
        int length = reader.length;
        reader.length = 0;
        return length;
    }

    // ---- history

    public int undo() {
        if (states == 0) {
            return NONE;
        }
        states--;
        State latest = history[states];
        history[states] = now;
        now = latest;
        return states;
    }

    public int keep() {
        snapshot.copyFrom(now);
        kept = true;
        return now.events;
    }

    public int restore() {
        if (!kept) {
            return NONE;
        }
        spare.copyFrom(snapshot);
        recordAndGoOn();
        return now.events;
    }

    // ---- what is told

    public int wish(int wish, int what) {
        Wish one = now.find(wish);
        if (one == null) {
            return UNKNOWN;
        }
        switch (what) {
            case 0: return one.verdict;
            case 1: return one.parts;
            case 2: return one.partsThatAre(FALSE);
            case 3: return one.partsThatAre(TRUE);
            case 4: return one.decidedAt;
            case 5: return one.blame;
            case 6: return verdictIfEnded(one);
            case 7: return one.sizeOfParts();
            case 8: return one.cameAt;
            default: return BAD_VALUE;
        }
    }

    public int letter(int wish, int part, int place) {
        Wish one = now.find(wish);
        if (one == null || part < 0 || part >= one.parts) {
            return UNKNOWN;
        }
        if (place < 0) {
            return BAD_VALUE;
        }
        int length = scribe.spell(one, part);
        return place < length ? scribe.letters[place] : NONE;
    }

    public int part(int wish, int part, int what) {
        Wish one = now.find(wish);
        if (one == null || part < 0 || part >= one.parts) {
            return UNKNOWN;
        }
        switch (what) {
            case 0: return one.sizes[part];
            case 1: return scribe.spell(one, part);
            case 2: return forms.signs[loadAlone(one, part)];
            case 3: return forms.trueAtEnd[loadAlone(one, part)] ? 1 : 0;
            default: return BAD_VALUE;
        }
    }

    public int would(int wish, int set) {
        Wish one = now.find(wish);
        if (one == null) {
            return UNKNOWN;
        }
        if (set < 0 || set >= SETS) {
            return BAD_VALUE;
        }
        if (now.ended) {
            return NOT_POSSIBLE;
        }
        return verdictBehind(one, set);
    }

    public int bears(int wish, int what) {
        Wish one = now.find(wish);
        if (one == null) {
            return UNKNOWN;
        }
        if (what < 0 || what > 3) {
            return BAD_VALUE;
        }
        if (now.ended) {
            return NOT_POSSIBLE;
        }
        findOutcomes(one);
        int found = 0;
        for (int set = 0; set < SETS; set++) {
            boolean counts = what < 2 ? outcomes[set] != BROKEN : outcomes[set] == FULFILLED;
            if (counts && (what == 1 || what == 3)) {
                return set;
            }
            if (counts) {
                found++;
            }
        }
        return what == 1 || what == 3 ? NONE : found;
    }

    public int open(int rank) {
        if (rank < 0) {
            return BAD_VALUE;
        }
        for (int w = 0; w < now.wishesSoFar; w++) {
            if (now.isOpen(w) && now.rankOfOpen(w) == rank) {
                return w;
            }
        }
        return NONE;
    }

    public int at(int time) {
        if (time < 0) {
            return BAD_VALUE;
        }
        return time < now.events ? now.sets[time] : NONE;
    }

    public int count(int what) {
        switch (what) {
            case 0: return now.events;
            case 1: return now.ended ? 1 : 0;
            case 2: return now.howManyThere();
            case 3: return now.wishesSoFar;
            case 4: return now.howMany(OPEN);
            case 5: return now.howMany(BROKEN);
            case 6: return now.howMany(FULFILLED);
            case 7: return states;
            case 8: return reader.length;
            default: return BAD_VALUE;
        }
    }

    // ---- acts: the next state is made in the spare one, so that an error leaves the present one as it was

    private void recordAndGoOn() {
        State free;
        if (states < MOST_STATES) {
            free = history[states];
            history[states] = now;
            states++;
        } else {
            free = history[0];
            for (int i = 1; i < MOST_STATES; i++) {
                history[i - 1] = history[i];
            }
            history[MOST_STATES - 1] = now;
        }
        now = spare;
        spare = free;
    }

    private boolean rewriteParts(Wish before, Wish after, int set) {
        for (int p = 0; p < before.parts; p++) {
            int form = changes.behind(loadAlone(before, p), set);
            if (forms.size[form] > MOST_SIZE) {
                return false;
            }
            scribe.save(form, after, p);
        }
        return true;
    }

    private int signsToBlame(Wish before, int set) {
        int blamed = 0;
        for (int s = 0; s < SIGNS; s++) {
            if (verdictBehind(before, set ^ (1 << s)) != BROKEN) {
                blamed |= 1 << s;
            }
        }
        return blamed;
    }

    private void endParts(Wish one) {
        for (int p = 0; p < one.parts; p++) {
            boolean holds = forms.trueAtEnd[loadAlone(one, p)];
            scribe.save(holds ? TRUE : FALSE, one, p);
        }
    }

    private int bring(int form) {
        boolean several = forms.kind[form] == ALL;
        int parts = several ? forms.number[form] : 1;
        int wish = now.wishesSoFar;
        if (wish >= MOST_WISHES || parts > MOST_PARTS) {
            return FULL;
        }
        spare.copyFrom(now);
        Wish one = spare.wishes[wish];
        for (int p = 0; p < parts; p++) {
            int partForm = several ? forms.kid(form, p) : form;
            if (forms.size[partForm] > MOST_SIZE) {
                return FULL;
            }
            scribe.save(partForm, one, p);
        }
        one.come(parts, now.events);
        spare.wishesSoFar++;
        recordAndGoOn();
        return wish;
    }

    // ---- forms of wishes

    private int loadAlone(Wish one, int part) {
        forms.release(LEAVES);
        return scribe.load(one, part);
    }

    private int allOfParts(Wish one) {
        changes.begin(ALL);
        for (int p = 0; p < one.parts; p++) {
            changes.put(scribe.load(one, p));
        }
        return changes.done();
    }

    private int verdictIfEnded(Wish one) {
        if (one.verdict != OPEN) {
            return one.verdict;
        }
        for (int p = 0; p < one.parts; p++) {
            if (!forms.trueAtEnd[loadAlone(one, p)]) {
                return BROKEN;
            }
        }
        return FULFILLED;
    }

    private int verdictBehind(Wish one, int set) {
        if (one.verdict != OPEN) {
            return one.verdict;
        }
        int verdict = FULFILLED;
        for (int p = 0; p < one.parts && verdict != BROKEN; p++) {
            int form = changes.behind(loadAlone(one, p), set);
            verdict = worse(verdict, verdictOfForm(form));
        }
        return verdict;
    }

    private void findOutcomes(Wish one) {
        for (int set = 0; set < SETS; set++) {
            outcomes[set] = one.verdict == OPEN ? FULFILLED : one.verdict;
        }
        if (one.verdict == OPEN) {
            for (int p = 0; p < one.parts; p++) {
                addOutcomesOfPart(one, p);
            }
        }
    }

    // Signs that a part doesn't have change nothing for it, so only the sets of its own signs are tried.
    private void addOutcomesOfPart(Wish one, int part) {
        int form = loadAlone(one, part);
        int own = forms.signs[form];
        int mark = forms.top;
        for (int set = 0; set < SETS; set++) {
            if ((set & own) == set) {
                partOutcomes[set] = verdictOfForm(changes.behind(form, set));
                forms.release(mark);
            }
            outcomes[set] = worse(outcomes[set], partOutcomes[set & own]);
        }
    }

    private static int verdictOfForm(int form) {
        return form == FALSE ? BROKEN : form == TRUE ? FULFILLED : OPEN;
    }

    private static int worse(int one, int other) {
        if (one == BROKEN || other == BROKEN) {
            return BROKEN;
        }
        return one == OPEN || other == OPEN ? OPEN : FULFILLED;
    }

    /** A wish, with its parts as codes in the order of their texts, each form ahead of what it is made of. */
    private static final class Wish {
        private boolean there;
        private int verdict;
        private int parts;
        private int decidedAt;
        private int blame;
        private int cameAt;
        private final int[] sizes = new int[MOST_PARTS];
        private final int[] codes = new int[MOST_PARTS * MOST_SIZE];

        private void come(int partsThen, int events) {
            there = true;
            parts = partsThen;
            verdict = verdictOfParts();
            decidedAt = NONE;
            blame = 0;
            cameAt = events;
        }

        /** Whether the event at this time gave the open wish its verdict. */
        private boolean judge(int time) {
            verdict = verdictOfParts();
            if (verdict == OPEN) {
                return false;
            }
            decidedAt = time;
            return true;
        }

        private void copyFrom(Wish from) {
            there = from.there;
            verdict = from.verdict;
            parts = from.parts;
            decidedAt = from.decidedAt;
            blame = from.blame;
            cameAt = from.cameAt;
            for (int p = 0; p < parts; p++) {
                sizes[p] = from.sizes[p];
                System.arraycopy(from.codes, p * MOST_SIZE, codes, p * MOST_SIZE, sizes[p]);
            }
        }

        private int partsThatAre(int leaf) {
            int found = 0;
            for (int p = 0; p < parts; p++) {
                if (codes[p * MOST_SIZE] == leaf) {
                    found |= 1 << p;
                }
            }
            return found;
        }

        private int verdictOfParts() {
            if (partsThatAre(FALSE) != 0) {
                return BROKEN;
            }
            return partsThatAre(TRUE) == (1 << parts) - 1 ? FULFILLED : OPEN;
        }

        private int sizeOfParts() {
            int sum = 0;
            for (int p = 0; p < parts; p++) {
                sum += sizes[p];
            }
            return sum;
        }
    }

    /** Everything but the text, the history and the snapshot. */
    private static final class State {
        private boolean ended;
        private int events;
        private int wishesSoFar;
        private final int[] sets = new int[MOST_EVENTS];
        private final Wish[] wishes = new Wish[MOST_WISHES];

        private State() {
            for (int w = 0; w < MOST_WISHES; w++) {
                wishes[w] = new Wish();
            }
        }

        private void copyFrom(State from) {
            ended = from.ended;
            events = from.events;
            wishesSoFar = from.wishesSoFar;
            System.arraycopy(from.sets, 0, sets, 0, events);
            for (int w = 0; w < wishesSoFar; w++) {
                wishes[w].copyFrom(from.wishes[w]);
            }
        }

        private Wish find(int wish) {
            if (wish < 0 || wish >= wishesSoFar || !wishes[wish].there) {
                return null;
            }
            return wishes[wish];
        }

        private boolean isOpen(int wish) {
            return wishes[wish].there && wishes[wish].verdict == OPEN;
        }

        private int rankOfOpen(int wish) {
            int size = wishes[wish].sizeOfParts();
            int ahead = 0;
            for (int w = 0; w < wishesSoFar; w++) {
                int otherSize = wishes[w].sizeOfParts();
                if (isOpen(w) && (otherSize > size || (otherSize == size && w < wish))) {
                    ahead++;
                }
            }
            return ahead;
        }

        private int howManyThere() {
            return howMany(BROKEN) + howMany(FULFILLED) + howMany(OPEN);
        }

        private int howMany(int verdict) {
            int found = 0;
            for (int w = 0; w < wishesSoFar; w++) {
                if (wishes[w].there && wishes[w].verdict == verdict) {
                    found++;
                }
            }
            return found;
        }
    }

    /**
     * The forms of the work at hand, each only once: two forms are alike exactly if they have one number.
     * What a form is made of always has lower numbers than itself, so loops by number need no recursion.
     */
    private static final class Forms {
        private final int[] kind = new int[NODES];
        private final int[] start = new int[NODES];
        private final int[] number = new int[NODES];
        private final int[] size = new int[NODES];
        private final int[] signs = new int[NODES];
        private final boolean[] trueAtEnd = new boolean[NODES];
        private final char[] firstLetter = new char[NODES];
        private final int[] kids = new int[KIDS];
        private final int[] newestOfSlot = new int[SLOTS];
        private final int[] olderOfSlot = new int[NODES];
        private final int[] slot = new int[NODES];
        private int top = LEAVES;
        private int kidsTop;

        private Forms() {
            for (int id = 0; id < LEAVES; id++) {
                kind[id] = id;
                size[id] = 1;
                signs[id] = id < SIGN ? 0 : 1 << ((id - SIGN) % SIGNS);
                trueAtEnd[id] = id == TRUE || id == OVER || id >= OPPOSITE;
                firstLetter[id] = id >= OPPOSITE ? '-' : LEAF_LETTERS[id];
            }
        }

        private int kid(int form, int index) {
            return index >= 0 && index < number[form] ? kids[start[form] + index] : FALSE;
        }

        /** Forgets the forms from this number on. */
        private void release(int mark) {
            for (int id = top - 1; id >= mark && id >= LEAVES; id--) {
                newestOfSlot[slot[id]] = olderOfSlot[id];
                kidsTop = start[id];
                top = id;
            }
        }

        /** The form of this kind that is made of the n forms in the row; they are in their order already. */
        private int make(int what, int[] row, int from, int n) {
            if (from < 0 || n > row.length - from) {
                return FALSE;
            }
            int hash = what;
            for (int i = 0; i < n; i++) {
                hash = hash * 31 + row[from + i];
            }
            int place = (hash ^ (hash >>> 9)) & (SLOTS - 1);
            int known = newestOfSlot[place];
            for (int step = 0; step < NODES && known != 0; step++) {
                if (isMadeOf(known, what, row, from, n)) {
                    return known;
                }
                known = olderOfSlot[known];
            }
            if (top >= NODES || n > KIDS - kidsTop) {
                return FALSE;
            }
            int id = top;
            top++;
            slot[id] = place;
            olderOfSlot[id] = newestOfSlot[place];
            newestOfSlot[place] = id;
            kind[id] = what;
            start[id] = kidsTop;
            number[id] = n;
            System.arraycopy(row, from, kids, kidsTop, n);
            kidsTop += n;
            describe(id);
            return id;
        }

        private boolean isMadeOf(int id, int what, int[] row, int from, int n) {
            if (kind[id] != what || number[id] != n) {
                return false;
            }
            for (int i = 0; i < n; i++) {
                if (kids[start[id] + i] != row[from + i]) {
                    return false;
                }
            }
            return true;
        }

        private void describe(int id) {
            int what = kind[id];
            int total = 1;
            int has = 0;
            boolean allTrue = true;
            boolean anyTrue = false;
            for (int i = start[id]; i < kidsTop; i++) {
                int kid = kids[i];
                total += size[kid];
                has |= signs[kid];
                allTrue = allTrue && trueAtEnd[kid];
                anyTrue = anyTrue || trueAtEnd[kid];
            }
            size[id] = total;
            signs[id] = has;
            firstLetter[id] = what == NEXT ? 'X' : what == WEAK_NEXT ? 'N' : '(';
            trueAtEnd[id] = what == WEAK_NEXT || what == AS_LONG_AS
                || (what == ALL && allTrue) || (what == ANY && anyTrue);
        }

        /**
         * Below 0, 0 or above 0, as the text of one form stands ahead of, is, or stands behind that of the other.
         * No text begins another one, so the first form in which they differ decides.
         */
        private int order(int one, int other) {
            int a = one;
            int b = other;
            for (int depth = 0; depth < NODES && a != b; depth++) {
                if (firstLetter[a] != firstLetter[b]) {
                    return firstLetter[a] - firstLetter[b];
                }
                if (a < LEAVES || b < LEAVES) {
                    return a - b;
                }
                int fewer = number[a] < number[b] ? number[a] : number[b];
                int alike = 0;
                while (alike < fewer && kids[start[a] + alike] == kids[start[b] + alike]) {
                    alike++;
                }
                if (alike > 0 && kind[a] != kind[b]) {
                    return SEPARATORS[kind[a]] - SEPARATORS[kind[b]];
                }
                if (alike == fewer) {
                    int behindA = number[a] == fewer ? ')' : SEPARATORS[kind[a]];
                    int behindB = number[b] == fewer ? ')' : SEPARATORS[kind[b]];
                    return behindA - behindB;
                }
                a = kids[start[a] + alike];
                b = kids[start[b] + alike];
            }
            return 0;
        }
    }

    /** Puts forms into an all or an any, and tells what events and opposites make of forms. */
    private static final class Changes {
        private final Forms forms;
        private final int[] becomes = new int[NODES];
        private final int[] row = new int[NODES];
        private final int[] pair = new int[2];
        private int joiner;
        private int length;
        private int leaves;

        private Changes(Forms forms) {
            this.forms = forms;
        }

        private void begin(int allOrAny) {
            joiner = allOrAny;
            length = 0;
            leaves = 0;
        }

        // What stands in a form that is opened is in order already, so most forms go to the end of the row.
        private void put(int form) {
            boolean opens = forms.kind[form] == joiner;
            int n = opens ? forms.number[form] : 1;
            for (int i = 0; i < n; i++) {
                int one = opens ? forms.kid(form, i) : form;
                if (one < LEAVES) {
                    leaves |= 1 << one;
                }
                int place = length;
                while (place > 0 && forms.order(row[place - 1], one) > 0) {
                    place--;
                }
                boolean isThere = place > 0 && row[place - 1] == one;
                if (!isThere && one != neutral() && length < NODES) {
                    System.arraycopy(row, place, row, place + 1, length - place);
                    row[place] = one;
                    length++;
                }
            }
        }

        private int neutral() {
            return joiner == ALL ? TRUE : FALSE;
        }

        private int done() {
            int neutral = neutral();
            int decisive = TRUE - neutral;
            boolean hasDecisive = (leaves & (1 << decisive)) != 0;
            boolean hasBothEnds = (leaves & BOTH_ENDS) == BOTH_ENDS;
            boolean hasBothSigns = ((leaves >> SIGN) & (leaves >> OPPOSITE)) != 0;
            if (hasDecisive || hasBothEnds || hasBothSigns) {
                return decisive;
            }
            if (length == 0) {
                return neutral;
            }
            return length == 1 ? row[0] : forms.make(joiner, row, 0, length);
        }

        /** All, or any, of two forms. */
        private int two(int allOrAny, int one, int other) {
            begin(allOrAny);
            put(one);
            put(other);
            return done();
        }

        /** A form of a next or an until kind. */
        private int make(int what, int one, int other) {
            pair[0] = one;
            pair[1] = other;
            return forms.make(what, pair, 0, what == NEXT || what == WEAK_NEXT ? 1 : 2);
        }

        /** What an event makes of the form. */
        private int behind(int root, int set) {
            becomes[FALSE] = FALSE;
            becomes[TRUE] = TRUE;
            becomes[MORE] = TRUE;
            becomes[OVER] = FALSE;
            for (int s = 0; s < SIGNS; s++) {
                boolean happens = (set & (1 << s)) != 0;
                becomes[SIGN + s] = happens ? TRUE : FALSE;
                becomes[OPPOSITE + s] = happens ? FALSE : TRUE;
            }
            for (int id = LEAVES; id <= root; id++) {
                int first = forms.kid(id, 0);
                int last = forms.kid(id, forms.number[id] - 1);
                switch (forms.kind[id]) {
                    case NEXT:
                        becomes[id] = two(ALL, MORE, first);
                        break;
                    case WEAK_NEXT:
                        becomes[id] = two(ANY, OVER, first);
                        break;
                    case UNTIL:
                        becomes[id] = two(ANY, becomes[last], two(ALL, becomes[first], id));
                        break;
                    case AS_LONG_AS:
                        becomes[id] = two(ALL, becomes[last], two(ANY, becomes[first], id));
                        break;
                    default:
                        becomes[id] = joinKids(id, forms.kind[id]);
                        break;
                }
            }
            return becomes[root];
        }

        private int opposite(int root) {
            becomes[FALSE] = TRUE;
            becomes[TRUE] = FALSE;
            becomes[MORE] = OVER;
            becomes[OVER] = MORE;
            for (int s = 0; s < SIGNS; s++) {
                becomes[SIGN + s] = OPPOSITE + s;
                becomes[OPPOSITE + s] = SIGN + s;
            }
            for (int id = LEAVES; id <= root; id++) {
                int first = becomes[forms.kid(id, 0)];
                int last = becomes[forms.kid(id, forms.number[id] - 1)];
                switch (forms.kind[id]) {
                    case NEXT:
                        becomes[id] = make(WEAK_NEXT, first, first);
                        break;
                    case WEAK_NEXT:
                        becomes[id] = make(NEXT, first, first);
                        break;
                    case UNTIL:
                        becomes[id] = make(AS_LONG_AS, first, last);
                        break;
                    case AS_LONG_AS:
                        becomes[id] = make(UNTIL, first, last);
                        break;
                    default:
                        becomes[id] = joinKids(id, ALL + ANY - forms.kind[id]);
                        break;
                }
            }
            return becomes[root];
        }

        private int joinKids(int id, int allOrAny) {
            begin(allOrAny);
            for (int i = 0; i < forms.number[id]; i++) {
                put(becomes[forms.kid(id, i)]);
            }
            return done();
        }
    }

    /** Brings parts of wishes into forms, forms into parts, and parts into texts. */
    private static final class Scribe {
        private final Forms forms;
        private final int[] stack = new int[MOST_SIZE];
        private final char[] letters = new char[LETTERS];
        private final char[] separators = new char[MOST_SIZE];
        private final int[] left = new int[MOST_SIZE];
        private int length;
        private int openBrackets;

        private Scribe(Forms forms) {
            this.forms = forms;
        }

        /** The codes are taken from the last to the first, so that what a form is made of is there already. */
        private int load(Wish wish, int part) {
            int lowest = MOST_SIZE;
            for (int i = wish.sizes[part] - 1; i >= 0; i--) {
                int code = wish.codes[part * MOST_SIZE + i];
                int n = code >> KIND_BITS;
                int form = code;
                if (n > 0) {
                    form = forms.make(code & KIND_MASK, stack, lowest, n);
                }
                lowest += n - 1;
                if (lowest < 0 || lowest >= MOST_SIZE) {
                    return FALSE;
                }
                stack[lowest] = form;
            }
            return lowest < MOST_SIZE ? stack[lowest] : FALSE;
        }

        /** The form has a size of at most 120. */
        private void save(int form, Wish wish, int part) {
            int size = forms.size[form];
            int held = 1;
            stack[0] = form;
            for (int i = 0; i < size && i < MOST_SIZE && held > 0; i++) {
                held--;
                int id = stack[held];
                int n = forms.number[id];
                wish.codes[part * MOST_SIZE + i] = forms.kind[id] | (n << KIND_BITS);
                for (int k = n - 1; k >= 0 && held < MOST_SIZE; k--) {
                    stack[held] = forms.kid(id, k);
                    held++;
                }
            }
            wish.sizes[part] = size;
        }

        /** Writes the text of the part into the letters, and returns its length. */
        private int spell(Wish wish, int part) {
            length = 0;
            openBrackets = 0;
            for (int i = 0; i < wish.sizes[part]; i++) {
                int code = wish.codes[part * MOST_SIZE + i];
                int n = code >> KIND_BITS;
                int what = code & KIND_MASK;
                if (n == 0) {
                    spellLeaf(what);
                    spellBehindForm();
                } else if (n == 1) {
                    write(what == NEXT ? 'X' : 'N');
                } else if (openBrackets < MOST_SIZE) {
                    write('(');
                    separators[openBrackets] = SEPARATORS[what];
                    left[openBrackets] = n;
                    openBrackets++;
                }
            }
            return length;
        }

        private void spellLeaf(int leaf) {
            if (leaf >= OPPOSITE) {
                write('-');
            }
            write(LEAF_LETTERS[leaf]);
        }

        private void spellBehindForm() {
            while (openBrackets > 0) {
                int latest = openBrackets - 1;
                left[latest]--;
                if (left[latest] > 0) {
                    write(separators[latest]);
                    return;
                }
                write(')');
                openBrackets--;
            }
        }

        private void write(char letter) {
            if (length < LETTERS) {
                letters[length] = letter;
                length++;
            }
        }
    }

    /** The text that is typed, its fault, and the form that it tells. */
    private static final class Reader {
        private final Forms forms;
        private final Changes changes;
        private final char[] text = new char[MOST_TEXT];
        private final int[] values = new int[MOST_TEXT];
        private final char[] waiting = new char[MOST_TEXT];
        private int length;
        private int valuesHeld;
        private int waitingHeld;

        private Reader(Forms forms, Changes changes) {
            this.forms = forms;
            this.changes = changes;
        }

        private boolean append(char character) {
            if (length >= MOST_TEXT) {
                return false;
            }
            text[length] = character;
            length++;
            return true;
        }

        /** The index of the fault, or -1 if there is none. */
        private int findFault() {
            boolean thingIsDue = true;
            int depth = 0;
            for (int i = 0; i < length; i++) {
                char c = text[i];
                if (thingIsDue) {
                    if (c == '(' && depth < MOST_BRACKETS) {
                        depth++;
                    } else if (isValue(c)) {
                        thingIsDue = false;
                    } else if (!isInFront(c)) {
                        return i;
                    }
                } else if (c == ')' && depth > 0) {
                    depth--;
                } else if (isBetween(c)) {
                    thingIsDue = true;
                } else {
                    return i;
                }
            }
            return thingIsDue || depth > 0 ? length : -1;
        }

        /** The form of the text, which has no fault. */
        private int read() {
            valuesHeld = 0;
            waitingHeld = 0;
            for (int i = 0; i < length; i++) {
                char c = text[i];
                if (isValue(c)) {
                    hold(valueOf(c));
                    applyInFront();
                } else if (c == ')') {
                    combineDownTo(1);
                    waitingHeld = waitingHeld > 0 ? waitingHeld - 1 : 0;
                    applyInFront();
                } else {
                    if (isBetween(c)) {
                        combineDownTo(leastToCombine(c));
                    }
                    await(c);
                }
            }
            combineDownTo(1);
            return valuesHeld > 0 ? values[0] : FALSE;
        }

        private void hold(int form) {
            if (valuesHeld < MOST_TEXT) {
                values[valuesHeld] = form;
                valuesHeld++;
            }
        }

        private void await(char c) {
            if (waitingHeld < MOST_TEXT) {
                waiting[waitingHeld] = c;
                waitingHeld++;
            }
        }

        private void applyInFront() {
            while (waitingHeld > 0 && valuesHeld > 0 && isInFront(waiting[waitingHeld - 1])) {
                waitingHeld--;
                int form = values[valuesHeld - 1];
                int result;
                switch (waiting[waitingHeld]) {
                    case '!': result = changes.opposite(form); break;
                    case 'X': result = changes.make(NEXT, form, form); break;
                    case 'N': result = changes.make(WEAK_NEXT, form, form); break;
                    case 'G': result = changes.make(AS_LONG_AS, FALSE, form); break;
                    default: result = changes.make(UNTIL, TRUE, form); break;
                }
                values[valuesHeld - 1] = result;
            }
        }

        private void combineDownTo(int leastBinding) {
            while (waitingHeld > 0 && valuesHeld > 1 && binding(waiting[waitingHeld - 1]) >= leastBinding) {
                waitingHeld--;
                valuesHeld--;
                int one = values[valuesHeld - 1];
                int other = values[valuesHeld];
                int result;
                switch (waiting[waitingHeld]) {
                    case 'U': result = changes.make(UNTIL, one, other); break;
                    case 'R': result = changes.make(AS_LONG_AS, one, other); break;
                    case '&': result = changes.two(ALL, one, other); break;
                    default: result = changes.two(ANY, one, other); break;
                }
                values[valuesHeld - 1] = result;
            }
        }

        // U and R go to the right: those in front of them wait.
        private static int leastToCombine(char c) {
            return c == 'U' || c == 'R' ? binding(c) + 1 : binding(c);
        }

        private static int binding(char c) {
            switch (c) {
                case '|': return 1;
                case '&': return 2;
                case 'U': return 3;
                case 'R': return 3;
                default: return 0;
            }
        }

        private static boolean isBetween(char c) {
            return binding(c) > 0;
        }

        private static boolean isInFront(char c) {
            return c == '!' || c == 'X' || c == 'N' || c == 'G' || c == 'F';
        }

        private static boolean isValue(char c) {
            return c == '0' || c == '1' || (c >= 'a' && c <= 'f');
        }

        private static int valueOf(char c) {
            return c == '0' ? FALSE : c == '1' ? TRUE : SIGN + (c - 'a');
        }
    }
}
