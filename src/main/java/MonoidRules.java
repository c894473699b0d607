/**
 * Monoids told by letters and equations of words, completed after Knuth and Bendix.
 * The words in capitals are the ones of the document.
 */
public final class MonoidRules {
    public static final int NONE = -1, BAD = -2, STATE = -3, FULL = -4, ENDLESS = -5;

    private static final int TAPE_ROOM = 600;
    private static final int ALPHABET = 26;
    private static final int MOST_LETTERS = 8;
    private static final int TEXT_WORD = 24;
    private static final int MOST_EQUATIONS = 40;
    private static final int SLOT_COUNT = 8;
    private static final int SLOT_WORD = 80;
    private static final int MOST_RULES = 200;
    private static final int SIDE_ROOM = 60;
    private static final int MOST_WAITING = 1000;
    private static final int MOST_FUEL = 500;
    private static final int MOST_STEPS = 1000;
    private static final int KEPT_STEPS = 300;
    private static final int MOST_POWERS = 200;
    private static final int INVERSES_TRIED = 400;
    private static final int FAULT_BASE = -1000;
    private static final long MOST_NUMBER = 2147483647L;
    private static final long MOST_COUNTED = 1000000000000000L;

    // The longest PAIR is a RIGHT (60) with the rest of a LEFT (59).
    private static final int WORD_ROOM = 2 * SIDE_ROOM;
    // A REDUCING reads its word once and at most 60 letters for each STEP: some 60,120.
    private static final int MOST_TURNS = 1000000;
    private static final int MOST_NODES = 1 + MOST_RULES * SIDE_ROOM;

    private final byte[] tape = new byte[TAPE_ROOM];
    private int tapeLength;
    private int latestFault;
    private final int[] letterNumbers = new int[ALPHABET];
    private final Presentation text = new Presentation();
    private final Word[] slots = new Word[SLOT_COUNT];
    private final Rules rules = new Rules();
    private final Row row = new Row();
    private final Machine machine = new Machine();
    private final Reducer reducer = new Reducer(rules, machine);
    private final Completion completion = new Completion(rules, row, reducer);
    private final Finder finder = new Finder(rules, reducer);
    private final Elements elements = new Elements(rules, machine);
    private final int[] toldRules = new int[KEPT_STEPS];
    private final int[] toldPlaces = new int[KEPT_STEPS];
    private int toldSteps;
    private final Word one = new Word(WORD_ROOM);
    private final Word other = new Word(WORD_ROOM);
    private final Word joined = new Word(WORD_ROOM);
    private final int[] powers = new int[MOST_POWERS + 1];

    public MonoidRules() {
        for (int i = 0; i < ALPHABET; i++) {
            letterNumbers[i] = NONE;
        }
        for (int i = 0; i < SLOT_COUNT; i++) {
            slots[i] = new Word(SLOT_WORD);
        }
    }

    // ---- texts

    public int feed(long w, int n) {
        if (n < 1 || n > 8) {
            return BAD;
        }
        if (tapeLength + n > TAPE_ROOM) {
            return FULL;
        }
        for (int i = n - 1; i >= 0; i--) {
            tape[tapeLength] = (byte) (w >>> (8 * i));
            tapeLength++;
        }
        return tapeLength;
    }

    public int read() {
        int bytes = tapeLength;
        tapeLength = 0;
        if (!text.takeSystem(tape, bytes)) {
            return tellFault();
        }
        beginSystem();
        return text.equations;
    }

    public int word(int slot) {
        if (!isSlot(slot)) {
            return BAD;
        }
        int bytes = tapeLength;
        tapeLength = 0;
        if (!text.takeSlotWord(tape, bytes, letterNumbers)) {
            return tellFault();
        }
        slots[slot].become(text.flow);
        return slots[slot].length;
    }

    public int fault() {
        return latestFault;
    }

    private int tellFault() {
        latestFault = text.fault;
        return FAULT_BASE - text.place;
    }

    private void beginSystem() {
        System.arraycopy(text.numbers, 0, letterNumbers, 0, ALPHABET);
        for (int i = 0; i < SLOT_COUNT; i++) {
            slots[i].clear();
        }
        rules.begin(text.letterCount);
        row.clear();
        for (int i = 0; i < text.equations; i++) {
            Pair pair = row.behind();
            if (pair != null) {
                text.copyWord(2 * i, pair.one);
                text.copyWord(2 * i + 1, pair.other);
            }
        }
        completion.begin();
        finder.begin();
        elements.begin();
        toldSteps = 0;
    }

    // ---- completion

    public int complete(int fuel) {
        if (fuel < 1 || fuel > MOST_FUEL) {
            return BAD;
        }
        for (int i = 0; i < fuel && completion.canTreat(); i++) {
            completion.treat();
            finder.forgetAnswer();
        }
        if (completion.stuck) {
            return 2;
        }
        return completion.isDone() ? 1 : 0;
    }

    public int count(int what) {
        switch (what) {
            case 0:
                return rules.letterCount;
            case 1:
                return rules.made;
            case 2:
                return rules.liveOnes();
            case 3:
                return row.waiting;
            case 4:
                return completion.treated;
            case 5:
                return completion.isDone() ? 1 : 0;
            case 6:
                return completion.stuck ? 1 : 0;
            case 7:
                return completion.steps;
            default:
                return BAD;
        }
    }

    public int rule(int rule, int what) {
        if (!rules.has(rule)) {
            return BAD;
        }
        switch (what) {
            case 0:
                return rules.rows[rule].live ? 1 : 0;
            case 1:
                return rules.rows[rule].left.length;
            case 2:
                return rules.rows[rule].right.length;
            default:
                return BAD;
        }
    }

    public int ruleLetter(int rule, int side, int i) {
        if (!rules.has(rule) || !isSide(side)) {
            return BAD;
        }
        Rule asked = rules.rows[rule];
        return side == 0 ? asked.left.at(i) : asked.right.at(i);
    }

    public int waiting(int k, int side, int i) {
        Pair pair = row.at(k);
        if (pair == null || !isSide(side)) {
            return BAD;
        }
        return side == 0 ? pair.one.at(i) : pair.other.at(i);
    }

    public int open() {
        return finder.find();
    }

    public int overlap(int what) {
        if (what < 0 || what > 2) {
            return BAD;
        }
        if (!finder.found) {
            return NONE;
        }
        if (what == 0) {
            return finder.first;
        }
        return what == 1 ? finder.second : finder.shared;
    }

    // ---- words

    public int length(int slot) {
        return isSlot(slot) ? slots[slot].length : BAD;
    }

    public int letter(int slot, int i) {
        return isSlot(slot) ? slots[slot].at(i) : BAD;
    }

    public int join(int slot, int a, int b) {
        if (!isSlot(slot) || !isSlot(a) || !isSlot(b)) {
            return BAD;
        }
        if (slots[a].length + slots[b].length > SLOT_WORD) {
            return FULL;
        }
        // The SLOT may be one of the two.
        joined.become(slots[a]);
        joined.append(slots[b], 0, slots[b].length);
        slots[slot].become(joined);
        return joined.length;
    }

    public int reduce(int slot) {
        if (!isSlot(slot)) {
            return BAD;
        }
        if (!reducer.toForm(slots[slot], slots[slot])) {
            return FULL;
        }
        // Copied only now: a refused reduce() leaves the older STEPS told.
        toldSteps = Math.min(reducer.steps, KEPT_STEPS);
        System.arraycopy(reducer.stepRules, 0, toldRules, 0, toldSteps);
        System.arraycopy(reducer.stepPlaces, 0, toldPlaces, 0, toldSteps);
        return reducer.steps;
    }

    public int step(int i, int what) {
        if (what < 0 || what > 1) {
            return BAD;
        }
        if (i < 0 || i >= toldSteps) {
            return NONE;
        }
        return what == 0 ? toldRules[i] : toldPlaces[i];
    }

    public int same(int a, int b) {
        if (!isSlot(a) || !isSlot(b)) {
            return BAD;
        }
        if (!reducer.toForm(slots[a], one) || !reducer.toForm(slots[b], other)) {
            return FULL;
        }
        if (one.against(other) == 0) {
            return 1;
        }
        return completion.isDone() ? 0 : NONE;
    }

    public int compare(int a, int b) {
        if (!isSlot(a) || !isSlot(b)) {
            return BAD;
        }
        return slots[a].against(slots[b]);
    }

    // ---- ELEMENTS

    public long many(int n) {
        if (n < 0 || n > SLOT_WORD) {
            return BAD;
        }
        if (!completion.isDone()) {
            return STATE;
        }
        long ways = elements.ofLength(n);
        return ways > MOST_COUNTED ? FULL : ways;
    }

    public long size() {
        return completion.isDone() ? elements.total() : STATE;
    }

    public int element(int i, int slot) {
        // STATE goes ahead of this BAD alone: that there are not so many ELEMENTS.
        if (i < 0 || !isSlot(slot)) {
            return BAD;
        }
        if (!completion.isDone()) {
            return STATE;
        }
        int found = elements.spell(i, one);
        if (found >= 0) {
            slots[slot].become(one);
        }
        return found;
    }

    public int number(int slot) {
        if (!isSlot(slot)) {
            return BAD;
        }
        if (!completion.isDone()) {
            return STATE;
        }
        return formNumber(slots[slot]);
    }

    public int product(int i, int j) {
        if (!completion.isDone()) {
            return STATE;
        }
        int first = elements.spell(i, one);
        int second = elements.spell(j, other);
        if (first == BAD || second == BAD) {
            return BAD;
        }
        if (first == FULL || second == FULL) {
            return FULL;
        }
        return multiply(one, other);
    }

    public int power(int i, int what) {
        if (!completion.isDone()) {
            return STATE;
        }
        int found = elements.spell(i, other);
        if (found == BAD || what < 0 || what > 1) {
            return BAD;
        }
        if (found == FULL) {
            return FULL;
        }
        one.clear();
        powers[0] = 0;
        for (int k = 1; k <= MOST_POWERS; k++) {
            powers[k] = multiply(one, other);
            if (powers[k] < 0) {
                return powers[k];
            }
            int earlier = earlierPower(k);
            if (earlier >= 0) {
                return what == 0 ? earlier : k - earlier;
            }
            one.become(joined);
        }
        return NONE;
    }

    public int inverse(int i) {
        if (!completion.isDone()) {
            return STATE;
        }
        int found = elements.spell(i, one);
        if (found < 0) {
            return found;
        }
        for (int j = 0; j < INVERSES_TRIED; j++) {
            int next = elements.spell(j, other);
            if (next < 0) {
                return next == BAD ? NONE : FULL;
            }
            int result = multiply(one, other);
            if (result == 0) {
                result = multiply(other, one);
            }
            if (result < 0) {
                return result;
            }
            if (result == 0) {
                return j;
            }
        }
        return NONE;
    }

    public int commutes() {
        if (!completion.isDone()) {
            return STATE;
        }
        for (int a = 0; a < rules.letterCount; a++) {
            for (int b = a + 1; b < rules.letterCount; b++) {
                if (!lettersCommute(a, b)) {
                    return 0;
                }
            }
        }
        return 1;
    }

    private boolean lettersCommute(int a, int b) {
        one.clear();
        one.add(a);
        one.add(b);
        other.clear();
        other.add(b);
        other.add(a);
        // Two letters have fewer than 80 lesser words, so no REDUCING here is TOO LONG.
        return reducer.toForm(one, one) && reducer.toForm(other, other) && one.against(other) == 0;
    }

    /** The number of the FORM of two words, which is left in joined; or FULL. */
    private int multiply(Word first, Word second) {
        if (first.length + second.length > SLOT_WORD) {
            return FULL;
        }
        joined.become(first);
        joined.append(second, 0, second.length);
        return formNumber(joined);
    }

    /** The number of the FORM of a word, which is left in joined; or FULL. */
    private int formNumber(Word word) {
        if (!reducer.toForm(word, joined)) {
            return FULL;
        }
        long found = elements.rank(joined);
        return found > MOST_NUMBER ? FULL : (int) found;
    }

    private int earlierPower(int k) {
        for (int m = 0; m < k; m++) {
            if (powers[m] == powers[k]) {
                return m;
            }
        }
        return NONE;
    }

    private static boolean isSlot(int slot) {
        return slot >= 0 && slot < SLOT_COUNT;
    }

    private static boolean isSide(int side) {
        return side == 0 || side == 1;
    }

    /** A word in a row of its own, which never grows. */
    private static final class Word {
        final byte[] letters;
        int length;

        Word(int room) {
            letters = new byte[Math.max(room, 0)];
        }

        void clear() {
            length = 0;
        }

        void add(int letter) {
            if (length < letters.length) {
                letters[length] = (byte) letter;
                length++;
            }
        }

        void become(Word that) {
            int copied = 0;
            for (int i = 0; i < that.length && i < letters.length; i++) {
                letters[i] = that.letters[i];
                copied++;
            }
            length = copied;
        }

        /** Another word's letters from one place up to (without) another come behind. */
        void append(Word that, int from, int to) {
            for (int i = from; i >= 0 && i < to && i < that.length && length < letters.length; i++) {
                letters[length] = that.letters[i];
                length++;
            }
        }

        int at(int i) {
            return i >= 0 && i < length ? letters[i] : NONE;
        }

        /** 1 if this is the greater one, -1 if that is, 0 if they are the same. */
        int against(Word that) {
            if (length != that.length) {
                return length > that.length ? 1 : -1;
            }
            for (int i = 0; i < length && i < that.length; i++) {
                if (letters[i] != that.letters[i]) {
                    return letters[i] > that.letters[i] ? 1 : -1;
                }
            }
            return 0;
        }

        boolean holds(Word part) {
            for (int from = 0; from + part.length <= length; from++) {
                if (matches(from, part, part.length)) {
                    return true;
                }
            }
            return false;
        }

        /** Whether the first n letters of a word stand here from a place on. */
        boolean matches(int from, Word that, int n) {
            if (from < 0 || from + n > length || n > that.length) {
                return false;
            }
            for (int i = 0; i < n; i++) {
                if (letters[from + i] != that.letters[i]) {
                    return false;
                }
            }
            return true;
        }
    }

    /** A RULE; its rows are used again by later systems. */
    private static final class Rule {
        final Word left = new Word(SIDE_ROOM);
        final Word right = new Word(SIDE_ROOM);
        boolean live;

        /** How many letters an overlap with another RULE can share. */
        int mostShared(Rule that) {
            return Math.min(left.length, that.left.length) - 1;
        }

        /** Whether the last n letters of this LEFT are the first n of that one. */
        boolean overlaps(Rule that, int n) {
            return left.matches(left.length - n, that.left, n);
        }

        /** The two words that an overlap of n letters with another RULE becomes. */
        void spellOverlap(Rule that, int n, Word first, Word second) {
            first.become(right);
            first.append(that.left, n, that.left.length);
            second.clear();
            second.append(left, 0, left.length - n);
            second.append(that.right, 0, that.right.length);
        }
    }

    private static final class Pair {
        final Word one = new Word(WORD_ROOM);
        final Word other = new Word(WORD_ROOM);
    }

    /** The PAIRS WAITING, in a ring whose places are filled when they are first needed. */
    private static final class Row {
        private final Pair[] ring = new Pair[MOST_WAITING];
        private int first;
        int waiting;

        void clear() {
            first = 0;
            waiting = 0;
        }

        /** A PAIR behind the row, to be written to; null if there is no room. */
        Pair behind() {
            if (waiting >= MOST_WAITING) {
                return null;
            }
            int place = (first + waiting) % MOST_WAITING;
            if (ring[place] == null) {
                ring[place] = new Pair();
            }
            waiting++;
            return ring[place];
        }

        Pair at(int k) {
            return k >= 0 && k < waiting ? ring[(first + k) % MOST_WAITING] : null;
        }

        /** The first PAIR goes out; its words stay till the next one comes behind. */
        Pair takeFirst() {
            Pair pair = at(0);
            if (pair != null) {
                first = (first + 1) % MOST_WAITING;
                waiting--;
            }
            return pair;
        }
    }

    /** The RULES of a system and how many LETTERS it has. */
    private static final class Rules {
        final Rule[] rows = new Rule[MOST_RULES];
        int made;
        int letterCount;
        // Set when LEFTS come or go: the machine is made of the LIVE ones.
        boolean changed = true;

        Rules() {
            for (int i = 0; i < MOST_RULES; i++) {
                rows[i] = new Rule();
            }
        }

        void begin(int letters) {
            made = 0;
            letterCount = letters;
            changed = true;
        }

        boolean has(int rule) {
            return rule >= 0 && rule < made;
        }

        boolean isLive(int rule) {
            return has(rule) && rows[rule].live;
        }

        int liveOnes() {
            int live = 0;
            for (int i = 0; i < made; i++) {
                live += rows[i].live ? 1 : 0;
            }
            return live;
        }

        int lettersOfLefts() {
            int letters = 0;
            for (int i = 0; i < made; i++) {
                letters += rows[i].live ? rows[i].left.length : 0;
            }
            return letters;
        }

        /** A new LIVE RULE's number; NONE if there may be no such RULE. */
        int make(Word left, Word right) {
            if (made >= MOST_RULES || left.length > SIDE_ROOM) {
                return NONE;
            }
            rows[made].left.become(left);
            rows[made].right.become(right);
            rows[made].live = true;
            changed = true;
            made++;
            return made - 1;
        }

        void drop(int rule) {
            if (has(rule)) {
                rows[rule].live = false;
                changed = true;
            }
        }
    }

    /**
     * Reads a word letter by letter and tells which LEFT ends where: the nodes are the
     * beginnings of all LIVE LEFTS, and a node is the longest of them that ends what was read.
     */
    private static final class Machine {
        private int capacity = 64;
        private int[] next = new int[capacity * MOST_LETTERS];
        private int[] fall = new int[capacity];
        private int[] order = new int[capacity];
        private int[] ends = new int[capacity];
        int nodes;
        int letterCount;

        /** Made anew if LEFTS came or went since the last time. */
        void renew(Rules rules) {
            if (!rules.changed) {
                return;
            }
            rules.changed = false;
            letterCount = rules.letterCount;
            clear(1 + rules.lettersOfLefts());
            for (int i = 0; i < rules.made; i++) {
                if (rules.rows[i].live) {
                    insert(rules.rows[i].left, i);
                }
            }
            link();
        }

        int after(int node, int letter) {
            int at = node * MOST_LETTERS + letter;
            return at >= 0 && at < next.length ? next[at] : 0;
        }

        /** The RULE whose LEFT ends with what was read, the least of several; NONE. */
        int ruleAt(int node) {
            return node >= 0 && node < ends.length ? ends[node] : NONE;
        }

        boolean isReducible(int node) {
            return ruleAt(node) >= 0;
        }

        /** The first node alone is left, and room for as many as are wanted. */
        private void clear(int wanted) {
            if (wanted > capacity) {
                // Doubled, so that many growing systems do not each make rows of their own.
                capacity = Math.max(wanted, Math.min(2 * capacity, MOST_NODES));
                next = new int[capacity * MOST_LETTERS];
                fall = new int[capacity];
                order = new int[capacity];
                ends = new int[capacity];
            }
            for (int i = 0; i < wanted * MOST_LETTERS && i < next.length; i++) {
                next[i] = NONE;
            }
            for (int i = 0; i < wanted && i < ends.length; i++) {
                ends[i] = NONE;
            }
            nodes = 1;
        }

        private void insert(Word left, int rule) {
            int node = 0;
            for (int i = 0; i < left.length; i++) {
                int at = node * MOST_LETTERS + left.letters[i];
                if (at < next.length && next[at] < 0) {
                    next[at] = nodes;
                    nodes++;
                }
                node = after(node, left.letters[i]);
            }
            if (node < ends.length) {
                ends[node] = leastRule(ends[node], rule);
            }
        }

        /** From short beginnings to long ones, so that what a node falls back to is finished. */
        private void link() {
            fall[0] = 0;
            order[0] = 0;
            int ordered = 1;
            for (int head = 0; head < nodes && head < ordered; head++) {
                int node = order[head];
                for (int letter = 0; letter < letterCount; letter++) {
                    int shorter = node == 0 ? 0 : after(fall[node], letter);
                    int child = after(node, letter);
                    if (child < 0) {
                        next[node * MOST_LETTERS + letter] = shorter;
                    } else if (child < nodes && ordered < nodes) {
                        fall[child] = shorter;
                        ends[child] = leastRule(ends[child], ruleAt(shorter));
                        order[ordered] = child;
                        ordered++;
                    }
                }
            }
        }

        private static int leastRule(int a, int b) {
            if (a < 0) {
                return b;
            }
            return b < 0 || a < b ? a : b;
        }
    }

    /** REDUCES words and keeps the first STEPS of the latest REDUCING. */
    private static final class Reducer {
        private final Rules rules;
        private final Machine machine;
        // What is still to be read, the next letter last.
        private final byte[] rest = new byte[WORD_ROOM];
        private final byte[] done = new byte[WORD_ROOM];
        private final int[] nodes = new int[WORD_ROOM + 1];
        final int[] stepRules = new int[KEPT_STEPS];
        final int[] stepPlaces = new int[KEPT_STEPS];
        int steps;

        Reducer(Rules rules, Machine machine) {
            this.rules = rules;
            this.machine = machine;
        }

        /** The FORM of one word comes into another (or the same); false if it is TOO LONG. */
        boolean toForm(Word from, Word into) {
            machine.renew(rules);
            steps = 0;
            nodes[0] = 0;
            int read = 0;
            // A RIGHT is never longer than its LEFT, so what is read and the rest fit for good.
            int left = putBack(from, 0);
            for (int turn = 0; turn < MOST_TURNS && left > 0 && read < WORD_ROOM; turn++) {
                left--;
                byte letter = rest[left];
                int node = machine.after(nodes[read], letter);
                done[read] = letter;
                read++;
                nodes[read] = node;
                int rule = machine.ruleAt(node);
                if (!rules.has(rule)) {
                    continue;
                }
                if (steps >= MOST_STEPS) {
                    return false;
                }
                read -= Math.min(rules.rows[rule].left.length, read);
                note(rule, read);
                left = putBack(rules.rows[rule].right, left);
            }
            write(read, into);
            return true;
        }

        private int putBack(Word word, int left) {
            int filled = left;
            for (int i = word.length - 1; i >= 0 && filled < WORD_ROOM; i--) {
                rest[filled] = word.letters[i];
                filled++;
            }
            return filled;
        }

        private void note(int rule, int place) {
            if (steps < KEPT_STEPS) {
                stepRules[steps] = rule;
                stepPlaces[steps] = place;
            }
            steps++;
        }

        private void write(int read, Word into) {
            into.clear();
            for (int i = 0; i < read; i++) {
                into.add(done[i]);
            }
        }
    }

    /** Treats PAIRS. */
    private static final class Completion {
        private final Rules rules;
        private final Row row;
        private final Reducer reducer;
        private final Word one = new Word(WORD_ROOM);
        private final Word other = new Word(WORD_ROOM);
        int treated;
        int steps;
        boolean stuck;

        Completion(Rules rules, Row row, Reducer reducer) {
            this.rules = rules;
            this.row = row;
            this.reducer = reducer;
        }

        void begin() {
            treated = 0;
            steps = 0;
            stuck = false;
        }

        boolean canTreat() {
            return !stuck && row.waiting > 0;
        }

        boolean isDone() {
            return !stuck && row.waiting == 0;
        }

        void treat() {
            Pair pair = row.takeFirst();
            if (pair == null) {
                return;
            }
            treated++;
            if (!takeForm(pair.one, one) || !takeForm(pair.other, other)) {
                stuck = true;
                return;
            }
            int order = one.against(other);
            if (order == 0) {
                return;
            }
            int fresh = order > 0 ? rules.make(one, other) : rules.make(other, one);
            stuck = fresh < 0 || !dropOlder(fresh) || !renewRights(fresh) || !pairAll(fresh);
        }

        private boolean takeForm(Word from, Word into) {
            if (!reducer.toForm(from, into)) {
                return false;
            }
            steps += reducer.steps;
            return true;
        }

        /** (a) of the treating; false, as in (b) and (c), if it got STUCK. */
        private boolean dropOlder(int fresh) {
            for (int i = 0; i < fresh; i++) {
                Rule older = rules.rows[i];
                if (!older.live || !older.left.holds(rules.rows[fresh].left)) {
                    continue;
                }
                rules.drop(i);
                Pair pair = row.behind();
                if (pair == null) {
                    return false;
                }
                pair.one.become(older.left);
                pair.other.become(older.right);
            }
            return true;
        }

        /** (b) of the treating. */
        private boolean renewRights(int fresh) {
            for (int i = 0; i < fresh; i++) {
                Rule older = rules.rows[i];
                if (older.live && !takeForm(older.right, older.right)) {
                    return false;
                }
            }
            return true;
        }

        /** (c) of the treating. */
        private boolean pairAll(int fresh) {
            Rule newest = rules.rows[fresh];
            for (int i = 0; i < fresh; i++) {
                Rule older = rules.rows[i];
                if (older.live && !(pairOverlaps(newest, older) && pairOverlaps(older, newest))) {
                    return false;
                }
            }
            return pairOverlaps(newest, newest);
        }

        private boolean pairOverlaps(Rule first, Rule second) {
            int most = first.mostShared(second);
            for (int n = 1; n <= most; n++) {
                if (!first.overlaps(second, n)) {
                    continue;
                }
                Pair pair = row.behind();
                if (pair == null) {
                    return false;
                }
                first.spellOverlap(second, n, pair.one, pair.other);
            }
            return true;
        }
    }

    /** Finds the first overlap that is still open. */
    private static final class Finder {
        private final Rules rules;
        private final Reducer reducer;
        private final Word one = new Word(WORD_ROOM);
        private final Word other = new Word(WORD_ROOM);
        // Till a PAIR is treated every open() answers the same, and it is a dear call.
        private boolean known;
        private int answer;
        boolean found;
        int first;
        int second;
        int shared;

        Finder(Rules rules, Reducer reducer) {
            this.rules = rules;
            this.reducer = reducer;
        }

        void begin() {
            known = false;
            found = false;
        }

        void forgetAnswer() {
            known = false;
        }

        /** 1, 0 or FULL, as open() tells it. */
        int find() {
            if (!known) {
                answer = tryAll();
                known = true;
            }
            return answer;
        }

        private int tryAll() {
            for (int i = 0; i < rules.made; i++) {
                for (int j = 0; j < rules.made; j++) {
                    int result = rules.isLive(i) && rules.isLive(j) ? tryTwo(i, j) : 0;
                    if (result != 0) {
                        return result;
                    }
                }
            }
            return 0;
        }

        private int tryTwo(int i, int j) {
            Rule before = rules.rows[i];
            Rule behind = rules.rows[j];
            int most = before.mostShared(behind);
            for (int n = 1; n <= most; n++) {
                if (!before.overlaps(behind, n)) {
                    continue;
                }
                before.spellOverlap(behind, n, one, other);
                if (!reducer.toForm(one, one) || !reducer.toForm(other, other)) {
                    return FULL;
                }
                if (one.against(other) != 0) {
                    found = true;
                    first = i;
                    second = j;
                    shared = n;
                    return 1;
                }
            }
            return 0;
        }
    }

    /**
     * Counts, spells and numbers the IRREDUCIBLE words of a COMPLETE system. There no LEFT
     * stands in another, so each node but the ends is an IRREDUCIBLE word itself.
     */
    private static final class Elements {
        private final Rules rules;
        private final Machine machine;
        // For n and a node: with how many words of n letters it goes on; counted up to a cap.
        private long[] ways = new long[0];
        private int countedRows;
        private boolean totalKnown;
        private long total;
        private int[] incoming = new int[0];
        private int[] queue = new int[0];
        private long[] paths = new long[0];

        Elements(Rules rules, Machine machine) {
            this.rules = rules;
            this.machine = machine;
        }

        void begin() {
            countedRows = 0;
            totalKnown = false;
        }

        /** How many have n letters; more than MOST_COUNTED if it is too many. */
        long ofLength(int n) {
            countRows(n);
            return waysOn(n, 0);
        }

        /** As size() tells it. */
        long total() {
            if (!totalKnown) {
                machine.renew(rules);
                makeQueue();
                total = countPaths();
                totalKnown = true;
            }
            return total;
        }

        /** Spells ELEMENT i: how many letters, BAD if there is none, FULL if it is too long. */
        int spell(int i, Word into) {
            if (i < 0) {
                return BAD;
            }
            long ahead = i;
            for (int n = 0; n <= SLOT_WORD; n++) {
                long here = ofLength(n);
                if (here == 0) {
                    return BAD;
                }
                if (ahead < here) {
                    spellOfLength(n, ahead, into);
                    return n;
                }
                ahead -= here;
            }
            long all = total();
            return all >= 0 && i >= all ? BAD : FULL;
        }

        /** The number of an IRREDUCIBLE word; too great, but no less than the cap, if capped. */
        long rank(Word word) {
            countRows(word.length);
            long ahead = 0;
            for (int n = 0; n < word.length; n++) {
                ahead += waysOn(n, 0);
            }
            int node = 0;
            for (int i = 0; i < word.length; i++) {
                int letter = word.letters[i];
                for (int lesser = 0; lesser < letter; lesser++) {
                    ahead += waysOn(word.length - 1 - i, machine.after(node, lesser));
                }
                node = machine.after(node, letter);
            }
            return ahead;
        }

        private void spellOfLength(int n, long number, Word into) {
            into.clear();
            int node = 0;
            long ahead = number;
            for (int left = n - 1; left >= 0; left--) {
                int letter = 0;
                long here = waysOn(left, machine.after(node, letter));
                while (ahead >= here && letter < machine.letterCount - 1) {
                    ahead -= here;
                    letter++;
                    here = waysOn(left, machine.after(node, letter));
                }
                into.add(letter);
                node = machine.after(node, letter);
            }
        }

        private long waysOn(int n, int node) {
            int at = n * machine.nodes + node;
            return at >= 0 && at < ways.length ? ways[at] : 0;
        }

        private void countRows(int n) {
            machine.renew(rules);
            int wanted = (SLOT_WORD + 1) * machine.nodes;
            if (ways.length < wanted) {
                ways = new long[Math.max(wanted, Math.min(2 * ways.length, (SLOT_WORD + 1) * MOST_NODES))];
                countedRows = 0;
            }
            for (int row = countedRows; row <= n && row <= SLOT_WORD; row++) {
                countRow(row);
                countedRows = row + 1;
            }
        }

        private void countRow(int row) {
            for (int node = 0; node < machine.nodes; node++) {
                long sum = row == 0 ? 1 : 0;
                for (int letter = 0; row > 0 && letter < machine.letterCount; letter++) {
                    sum += waysOn(row - 1, machine.after(node, letter));
                }
                ways[row * machine.nodes + node] = machine.isReducible(node) ? 0 : capped(sum);
            }
        }

        private void makeQueue() {
            if (queue.length < machine.nodes) {
                int capacity = Math.max(machine.nodes, Math.min(2 * queue.length, MOST_NODES));
                incoming = new int[capacity];
                queue = new int[capacity];
                paths = new long[capacity];
            }
            for (int node = 0; node < machine.nodes; node++) {
                incoming[node] = 0;
                paths[node] = 0;
            }
        }

        /** Goes through nodes whose ways in are all counted; a circle is never come to. */
        private long countPaths() {
            int live = countIncoming();
            int queued = 0;
            if (incoming[0] == 0) {
                paths[0] = 1;
                queue[0] = 0;
                queued = 1;
            }
            long sum = 0;
            for (int head = 0; head < machine.nodes && head < queued; head++) {
                int node = queue[head];
                sum = capped(sum + paths[node]);
                for (int letter = 0; letter < machine.letterCount; letter++) {
                    int to = machine.after(node, letter);
                    if (machine.isReducible(to)) {
                        continue;
                    }
                    paths[to] = capped(paths[to] + paths[node]);
                    incoming[to]--;
                    if (incoming[to] == 0 && queued < machine.nodes) {
                        queue[queued] = to;
                        queued++;
                    }
                }
            }
            if (queued < live) {
                return ENDLESS;
            }
            return sum > MOST_COUNTED ? FULL : sum;
        }

        /** How many nodes are IRREDUCIBLE. */
        private int countIncoming() {
            int live = 0;
            for (int node = 0; node < machine.nodes; node++) {
                if (machine.isReducible(node)) {
                    continue;
                }
                live++;
                for (int letter = 0; letter < machine.letterCount; letter++) {
                    incoming[machine.after(node, letter)]++;
                }
            }
            return live;
        }

        private static long capped(long count) {
            return count > MOST_COUNTED ? MOST_COUNTED + 1 : count;
        }
    }

    /** Reads texts; what it found stays here till the next one. */
    private static final class Presentation {
        private static final int IN_LETTERS = 0, IN_FIRST = 1, IN_SECOND = 2;

        final int[] numbers = new int[ALPHABET];
        int letterCount;
        int equations;
        // The letters of all words, one word behind the other, and where each ends.
        final Word flow = new Word(TAPE_ROOM);
        private final int[] wordEnds = new int[2 * MOST_EQUATIONS];
        private int words;
        private int inWord;
        private int part;
        int fault;
        int place;

        boolean takeSystem(byte[] tape, int bytes) {
            clear();
            for (int i = 0; i < ALPHABET; i++) {
                numbers[i] = NONE;
            }
            for (int i = 0; i < bytes && i < tape.length && fault == 0; i++) {
                if (!isPassedOver(tape[i])) {
                    place = i;
                    fault = part == IN_LETTERS ? takeLetter(tape[i]) : takeInWord(tape[i]);
                }
            }
            if (fault == 0 && (part != IN_FIRST || inWord > 0)) {
                place = bytes;
                fault = 1;
            }
            return fault == 0;
        }

        /** A WORD for a SLOT comes into flow. */
        boolean takeSlotWord(byte[] tape, int bytes, int[] known) {
            clear();
            for (int i = 0; i < bytes && i < tape.length && fault == 0; i++) {
                if (!isPassedOver(tape[i])) {
                    place = i;
                    fault = isLetter(tape[i]) ? takeWordLetter(known[tape[i] - 'a'], SLOT_WORD) : 1;
                }
            }
            return fault == 0;
        }

        void copyWord(int number, Word into) {
            into.clear();
            if (number >= 0 && number < words) {
                into.append(flow, number == 0 ? 0 : wordEnds[number - 1], wordEnds[number]);
            }
        }

        private void clear() {
            letterCount = 0;
            equations = 0;
            flow.clear();
            words = 0;
            inWord = 0;
            part = IN_LETTERS;
            fault = 0;
            place = 0;
        }

        private int takeLetter(byte b) {
            if (b == ';' && letterCount > 0) {
                part = IN_FIRST;
                return 0;
            }
            if (!isLetter(b)) {
                return 1;
            }
            if (numbers[b - 'a'] != NONE) {
                return 2;
            }
            if (letterCount >= MOST_LETTERS) {
                return 3;
            }
            numbers[b - 'a'] = letterCount;
            letterCount++;
            return 0;
        }

        private int takeInWord(byte b) {
            if (isLetter(b)) {
                return takeWordLetter(numbers[b - 'a'], TEXT_WORD);
            }
            if (part == IN_FIRST && b == '=') {
                if (equations >= MOST_EQUATIONS) {
                    return 3;
                }
                endWord();
                part = IN_SECOND;
                return 0;
            }
            if (part == IN_SECOND && b == ';') {
                endWord();
                equations++;
                part = IN_FIRST;
                return 0;
            }
            return 1;
        }

        private int takeWordLetter(int number, int most) {
            if (number < 0) {
                return 2;
            }
            if (inWord >= most) {
                return 3;
            }
            flow.add(number);
            inWord++;
            return 0;
        }

        private void endWord() {
            if (words < wordEnds.length) {
                wordEnds[words] = flow.length;
                words++;
            }
            inWord = 0;
        }

        private static boolean isPassedOver(byte b) {
            return b == 32 || b == 10;
        }

        private static boolean isLetter(byte b) {
            return b >= 'a' && b <= 'z';
        }
    }
}
