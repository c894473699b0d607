import java.math.BigInteger;
import java.util.ArrayList;
import java.util.HashMap;
import java.util.List;
import java.util.Map;
import java.util.TreeMap;

/**
 * The document told once more, with Strings and without any care for speed: the random
 * tests hold MonoidRules against it. Words are Strings of the characters '0' to '7'.
 */
final class NaiveMonoid {
    static final int NONE = -1, BAD = -2, STATE = -3, FULL = -4, ENDLESS = -5;
    private static final BigInteger MOST = BigInteger.TEN.pow(15);

    static final class TooLong extends Exception {
        private static final long serialVersionUID = 1L;
    }

    static final class Stuck extends Exception {
        private static final long serialVersionUID = 1L;
    }

    static final class Rule {
        String left;
        String right;
        boolean live = true;
    }

    private final List<Integer> tape = new ArrayList<>();
    private int latestFault;
    private String letters = "";
    private final String[] slots = {"", "", "", "", "", "", "", ""};
    private List<Rule> rules = new ArrayList<>();
    private List<String[]> row = new ArrayList<>();
    private int treated;
    private int steps;
    private boolean stuck;
    /** For the tests: what the treating was at when it got STUCK. */
    String at = "";
    private int[] found;
    private List<int[]> told = new ArrayList<>();
    private Map<String, BigInteger> waysKnown = new HashMap<>();
    private int bytesRead;
    private String slotWord;

    int feed(long w, int n) {
        if (n < 1 || n > 8) return BAD;
        if (tape.size() + n > 600) return FULL;
        for (int i = n - 1; i >= 0; i--) tape.add((int) ((w >> (8 * i)) & 255));
        return tape.size();
    }

    int read() {
        List<Integer> text = new ArrayList<>(tape);
        tape.clear();
        List<String[]> equations = new ArrayList<>();
        StringBuilder names = new StringBuilder();
        int fault = parse(text, names, equations);
        if (fault != 0) {
            latestFault = fault;
            return -1000 - bytesRead;
        }
        letters = names.toString();
        for (int i = 0; i < 8; i++) slots[i] = "";
        rules = new ArrayList<>();
        row = equations;
        int answer = equations.size();
        treated = 0;
        steps = 0;
        stuck = false;
        found = null;
        told = new ArrayList<>();
        waysKnown = new HashMap<>();
        return answer;
    }

    private int nextByte(List<Integer> text) {
        while (bytesRead < text.size() && (text.get(bytesRead) == 32 || text.get(bytesRead) == 10)) bytesRead++;
        return bytesRead < text.size() ? text.get(bytesRead) : -1;
    }

    private static boolean small(int b) {
        return b >= 'a' && b <= 'z';
    }

    private int parse(List<Integer> text, StringBuilder names, List<String[]> equations) {
        bytesRead = 0;
        while (true) {
            int b = nextByte(text);
            if (small(b)) {
                if (names.indexOf(String.valueOf((char) b)) >= 0) return 2;
                if (names.length() == 8) return 3;
                names.append((char) b);
            } else if (b == ';' && names.length() > 0) {
                bytesRead++;
                break;
            } else {
                return 1;
            }
            bytesRead++;
        }
        while (true) {
            if (nextByte(text) == -1) return 0;
            int fault = parseWord(text, names.toString(), 24);
            if (fault != 0) return fault;
            String one = slotWord;
            if (nextByte(text) != '=') return 1;
            if (equations.size() == 40) return 3;
            bytesRead++;
            fault = parseWord(text, names.toString(), 24);
            if (fault != 0) return fault;
            if (nextByte(text) != ';') return 1;
            bytesRead++;
            equations.add(new String[] {one, slotWord});
        }
    }

    private int parseWord(List<Integer> text, String names, int most) {
        StringBuilder out = new StringBuilder();
        while (small(nextByte(text))) {
            int number = names.indexOf(nextByte(text));
            if (number < 0) return 2;
            if (out.length() == most) return 3;
            out.append((char) ('0' + number));
            bytesRead++;
        }
        slotWord = out.toString();
        return 0;
    }

    private static boolean slotOk(int slot) {
        return slot >= 0 && slot < 8;
    }

    int word(int slot) {
        if (!slotOk(slot)) return BAD;
        List<Integer> text = new ArrayList<>(tape);
        tape.clear();
        bytesRead = 0;
        int fault = parseWord(text, letters, 80);
        if (fault == 0 && nextByte(text) != -1) fault = 1;
        if (fault != 0) {
            latestFault = fault;
            return -1000 - bytesRead;
        }
        slots[slot] = slotWord;
        return slotWord.length();
    }

    int fault() {
        return latestFault;
    }

    static int compareWords(String a, String b) {
        if (a.length() != b.length()) return a.length() > b.length() ? 1 : -1;
        return Integer.signum(a.compareTo(b));
    }

    private String form(String word, List<int[]> trace) throws TooLong {
        String w = word;
        int done = 0;
        while (true) {
            int[] at = firstPlace(w);
            if (at == null) return w;
            if (++done > 1000) throw new TooLong();
            Rule r = rules.get(at[0]);
            w = w.substring(0, at[1]) + r.right + w.substring(at[1] + r.left.length());
            trace.add(at);
        }
    }

    private int[] firstPlace(String w) {
        for (int end = 1; end <= w.length(); end++) {
            String read = w.substring(0, end);
            for (int r = 0; r < rules.size(); r++) {
                if (rules.get(r).live && read.endsWith(rules.get(r).left)) {
                    return new int[] {r, end - rules.get(r).left.length()};
                }
            }
        }
        return null;
    }

    private String counted(String word) throws TooLong {
        List<int[]> trace = new ArrayList<>();
        String w = form(word, trace);
        steps += trace.size();
        return w;
    }

    private void push(String one, String other) throws Stuck {
        if (row.size() == 1000) throw new Stuck();
        row.add(new String[] {one, other});
    }

    int complete(int fuel) {
        if (fuel < 1 || fuel > 500) return BAD;
        for (int i = 0; i < fuel && !stuck && !row.isEmpty(); i++) {
            treated++;
            try {
                treat();
            } catch (Stuck | TooLong e) {
                stuck = true;
            }
        }
        return stuck ? 2 : row.isEmpty() ? 1 : 0;
    }

    private void treat() throws Stuck, TooLong {
        String[] pair = row.remove(0);
        at = "first word";
        String one = counted(pair[0]);
        at = "second word";
        String other = counted(pair[1]);
        if (one.equals(other)) return;
        Rule fresh = new Rule();
        fresh.left = compareWords(one, other) > 0 ? one : other;
        fresh.right = compareWords(one, other) > 0 ? other : one;
        at = rules.size() == 200 ? "rule 200" : "long left";
        if (rules.size() == 200 || fresh.left.length() > 60) throw new Stuck();
        rules.add(fresh);
        at = "(a)";
        for (Rule r : rules) {
            if (r != fresh && r.live && r.left.contains(fresh.left)) {
                r.live = false;
                push(r.left, r.right);
            }
        }
        at = "(b)";
        for (Rule r : rules) {
            if (r != fresh && r.live) r.right = counted(r.right);
        }
        at = "(c)";
        for (Rule r : rules) {
            if (!r.live) continue;
            pushOverlaps(fresh, r);
            if (r != fresh) pushOverlaps(r, fresh);
        }
    }

    private static String[] overlapWords(Rule a, Rule b, int n) {
        if (!a.left.endsWith(b.left.substring(0, n))) return null;
        return new String[] {a.right + b.left.substring(n), a.left.substring(0, a.left.length() - n) + b.right};
    }

    private void pushOverlaps(Rule a, Rule b) throws Stuck {
        for (int n = 1; n < a.left.length() && n < b.left.length(); n++) {
            String[] words = overlapWords(a, b, n);
            if (words != null) push(words[0], words[1]);
        }
    }

    private boolean done() {
        return !stuck && row.isEmpty();
    }

    int count(int what) {
        int live = 0;
        for (Rule r : rules) live += r.live ? 1 : 0;
        int[] all = {letters.length(), rules.size(), live, row.size(), treated, done() ? 1 : 0, stuck ? 1 : 0, steps};
        return what < 0 || what > 7 ? BAD : all[what];
    }

    int rule(int rule, int what) {
        if (rule < 0 || rule >= rules.size() || what < 0 || what > 2) return BAD;
        Rule r = rules.get(rule);
        return what == 0 ? (r.live ? 1 : 0) : what == 1 ? r.left.length() : r.right.length();
    }

    private static int at(String w, int i) {
        return i < 0 || i >= w.length() ? NONE : w.charAt(i) - '0';
    }

    int ruleLetter(int rule, int side, int i) {
        if (rule < 0 || rule >= rules.size() || side < 0 || side > 1) return BAD;
        return at(side == 0 ? rules.get(rule).left : rules.get(rule).right, i);
    }

    int waiting(int k, int side, int i) {
        if (k < 0 || k >= row.size() || side < 0 || side > 1) return BAD;
        return at(row.get(k)[side], i);
    }

    int open() {
        try {
            for (int i = 0; i < rules.size(); i++) {
                for (int j = 0; j < rules.size(); j++) {
                    Rule a = rules.get(i);
                    Rule b = rules.get(j);
                    for (int n = 1; a.live && b.live && n < a.left.length() && n < b.left.length(); n++) {
                        String[] words = overlapWords(a, b, n);
                        if (words == null) continue;
                        String one = form(words[0], new ArrayList<>());
                        String other = form(words[1], new ArrayList<>());
                        if (!one.equals(other)) {
                            found = new int[] {i, j, n};
                            return 1;
                        }
                    }
                }
            }
            return 0;
        } catch (TooLong e) {
            return FULL;
        }
    }

    int overlap(int what) {
        return what < 0 || what > 2 ? BAD : found == null ? NONE : found[what];
    }

    int length(int slot) {
        return slotOk(slot) ? slots[slot].length() : BAD;
    }

    int letter(int slot, int i) {
        return slotOk(slot) ? at(slots[slot], i) : BAD;
    }

    int join(int slot, int a, int b) {
        if (!slotOk(slot) || !slotOk(a) || !slotOk(b)) return BAD;
        if (slots[a].length() + slots[b].length() > 80) return FULL;
        slots[slot] = slots[a] + slots[b];
        return slots[slot].length();
    }

    int reduce(int slot) {
        if (!slotOk(slot)) return BAD;
        List<int[]> trace = new ArrayList<>();
        try {
            slots[slot] = form(slots[slot], trace);
        } catch (TooLong e) {
            return FULL;
        }
        told = trace;
        return trace.size();
    }

    int step(int i, int what) {
        if (what < 0 || what > 1) return BAD;
        return i < 0 || i >= 300 || i >= told.size() ? NONE : told.get(i)[what];
    }

    int same(int a, int b) {
        if (!slotOk(a) || !slotOk(b)) return BAD;
        try {
            boolean alike = form(slots[a], new ArrayList<>()).equals(form(slots[b], new ArrayList<>()));
            return alike ? 1 : done() ? 0 : NONE;
        } catch (TooLong e) {
            return FULL;
        }
    }

    int compare(int a, int b) {
        return slotOk(a) && slotOk(b) ? compareWords(slots[a], slots[b]) : BAD;
    }

    /** The longest end of a word that a LIVE LEFT begins with; null if a LEFT ends the word. */
    private String tail(String word) {
        for (Rule r : rules) {
            if (r.live && word.endsWith(r.left)) return null;
        }
        for (int from = 0; from < word.length(); from++) {
            String end = word.substring(from);
            for (Rule r : rules) {
                if (r.live && r.left.startsWith(end)) return end;
            }
        }
        return "";
    }

    /** How many words of n letters can follow a tail. */
    private BigInteger ways(String tail, int n) {
        if (tail == null) return BigInteger.ZERO;
        if (n == 0) return BigInteger.ONE;
        String key = tail + "/" + n;
        BigInteger sum = waysKnown.get(key);
        if (sum == null) {
            sum = BigInteger.ZERO;
            for (int c = 0; c < letters.length(); c++) sum = sum.add(ways(tail(tail + c), n - 1));
            waysKnown.put(key, sum);
        }
        return sum;
    }

    long many(int n) {
        if (n < 0 || n > 80) return BAD;
        if (!done()) return STATE;
        BigInteger w = ways("", n);
        return w.compareTo(MOST) > 0 ? FULL : w.longValue();
    }

    /** null if there is no end. */
    private BigInteger total() {
        int tails = 1;
        for (Rule r : rules) tails += r.live ? r.left.length() : 0;
        Map<String, BigInteger> now = new TreeMap<>();
        now.put("", BigInteger.ONE);
        BigInteger sum = BigInteger.ZERO;
        for (int n = 0; n <= tails; n++) {
            Map<String, BigInteger> later = new TreeMap<>();
            for (Map.Entry<String, BigInteger> e : now.entrySet()) {
                sum = sum.add(e.getValue());
                for (int c = 0; c < letters.length(); c++) {
                    String to = tail(e.getKey() + c);
                    if (to != null) later.merge(to, e.getValue(), BigInteger::add);
                }
            }
            now = later;
        }
        return now.isEmpty() ? sum : null;
    }

    long size() {
        if (!done()) return STATE;
        BigInteger t = total();
        return t == null ? ENDLESS : t.compareTo(MOST) > 0 ? FULL : t.longValue();
    }

    /** ELEMENT i in slotWord: its length, BAD or FULL. */
    private int spell(int i) {
        if (i < 0) return BAD;
        BigInteger left = BigInteger.valueOf(i);
        for (int n = 0; n <= 80; n++) {
            BigInteger here = ways("", n);
            if (left.compareTo(here) < 0) {
                String word = "";
                while (word.length() < n) {
                    for (int c = 0; c < letters.length(); c++) {
                        BigInteger w = irreducible(word + c) ? ways(tail(word + c), n - word.length() - 1) : BigInteger.ZERO;
                        if (left.compareTo(w) < 0) {
                            word += c;
                            break;
                        }
                        left = left.subtract(w);
                    }
                }
                slotWord = word;
                return n;
            }
            left = left.subtract(here);
        }
        BigInteger t = total();
        return t == null || t.compareTo(BigInteger.valueOf(i)) > 0 ? FULL : BAD;
    }

    private boolean irreducible(String word) {
        return firstPlace(word) == null;
    }

    int element(int i, int slot) {
        if (i < 0 || !slotOk(slot)) return BAD;
        if (!done()) return STATE;
        int n = spell(i);
        if (n >= 0) slots[slot] = slotWord;
        return n;
    }

    private int numberOf(String word) {
        String w;
        try {
            w = form(word, new ArrayList<>());
        } catch (TooLong e) {
            return FULL;
        }
        BigInteger sum = BigInteger.ZERO;
        for (int n = 0; n < w.length(); n++) sum = sum.add(ways("", n));
        for (int i = 0; i < w.length(); i++) {
            for (char c = '0'; c < w.charAt(i); c++) {
                sum = sum.add(ways(tail(w.substring(0, i) + c), w.length() - i - 1));
            }
        }
        return sum.compareTo(BigInteger.valueOf(Integer.MAX_VALUE)) > 0 ? FULL : sum.intValue();
    }

    int number(int slot) {
        return !slotOk(slot) ? BAD : !done() ? STATE : numberOf(slots[slot]);
    }

    int product(int i, int j) {
        if (!done()) return STATE;
        int a = spell(i);
        String one = slotWord;
        int b = spell(j);
        if (a == BAD || b == BAD) return BAD;
        if (a == FULL || b == FULL || a + b > 80) return FULL;
        return numberOf(one + slotWord);
    }

    int power(int i, int what) {
        if (!done()) return STATE;
        if (what < 0 || what > 1 || spell(i) == BAD) return BAD;
        List<Integer> seen = new ArrayList<>();
        seen.add(0);
        for (int k = 1; k <= 200; k++) {
            int p = product(seen.get(k - 1), i);
            if (p < 0) return p;
            if (seen.contains(p)) return what == 0 ? seen.indexOf(p) : k - seen.indexOf(p);
            seen.add(p);
        }
        return NONE;
    }

    int inverse(int i) {
        if (!done()) return STATE;
        if (spell(i) == BAD) return BAD;
        for (int j = 0; j < 400 && spell(j) != BAD; j++) {
            int p = product(i, j);
            if (p == 0) p = product(j, i);
            if (p < 0) return p;
            if (p == 0) return j;
        }
        return NONE;
    }

    int commutes() {
        if (!done()) return STATE;
        for (int a = 0; a < letters.length(); a++) {
            for (int b = 0; b < letters.length(); b++) {
                if (numberOf("" + a + b) != numberOf("" + b + a)) return 0;
            }
        }
        return 1;
    }
}
