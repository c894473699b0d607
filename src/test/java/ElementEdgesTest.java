import java.util.ArrayList;
import java.util.Comparator;
import java.util.List;

/** Edges of ELEMENTS: "4 COMPLETE systems" and promises 1 and 20 to 27, sentence by sentence. */
public final class ElementEdgesTest extends Checks {
    private static final long MOST_COUNTED = 1000000000000000L;
    private static final int[] NO_SLOTS = {-1, 8, LEAST, MOST};

    public static void main(String[] args) {
        newObject();
        elementsFromTheLeastOn();
        stateInAllOfThese();
        manyOf0To80();
        manyUpTo10To15();
        sizes();
        endless();
        sizeUpTo10To15();
        elementsThatThereAre();
        elementsUpTo80Letters();
        elementRefusedKeepsTheSlot();
        elementStateAhead();
        numbers();
        numberRefuses();
        numberUpTo1000Steps();
        numberUpTo2147483647();
        products();
        productStateAhead();
        productUpTo80Letters();
        productAsNumber();
        powersAreProducts();
        powerIsAheadOfI();
        powers();
        powersUpTo200();
        powerRefuses();
        powerUpTo80Letters();
        powerAsNumber();
        powerUpTo1000Steps();
        inverses();
        inversesBelow400();
        inverseRefuses();
        inverseUpTo80Letters();
        inverseAsNumber();
        commuting();
        end();
    }

    /** PAIRS are WAITING; STUCK with PAIRS; STUCK with none. */
    private static Counted[] notComplete() {
        Counted waiting = system("ab;bb=;=;");
        waiting.complete(1);
        Counted stuck = system("ab;ba=bb;");
        due("complete(500)", stuck.complete(500), 2);
        Counted stuckAtTheLast = system("abcdefg;" + COUNTER + "ef=af;" + times("c", 10) + "ef=g;");
        due("complete(500)", stuckAtTheLast.complete(500), 2);
        due("count(3)", stuckAtTheLast.count(3), 0);
        return new Counted[] {waiting, stuck, stuckAtTheLast};
    }

    /** The number of the ELEMENT that a word is the FORM of. */
    private static int numberOf(Counted x, String word) {
        wordText(x, 0, word);
        return x.number(0);
    }

    private static String sorted(int a, int b, int c, int d) {
        return times("a", a) + times("b", b) + times("c", c) + times("d", d);
    }

    // ---- promise 1, and 4 COMPLETE systems

    private static void newObject() {
        sentence("promise 1", "No LETTERS, no RULES, nothing WAITING (so COMPLETE: the empty word is the one ELEMENT); an empty tape.");
        Counted x = new Counted();
        dueCounts(x, 0, 0, 0, 0, 0, 1, 0, 0);
        due("complete(1)", x.complete(1), 1);
        due("size()", x.size(), 1);
        due("many(0)", x.many(0), 1);
        due("many(1)", x.many(1), 0);
        due("many(80)", x.many(80), 0);
        due("element(0, 0)", x.element(0, 0), 0);
        due("element(1, 0)", x.element(1, 0), BAD);
        due("number(0)", x.number(0), 0);
        due("product(0, 0)", x.product(0, 0), 0);
        due("power(0, 0)", x.power(0, 0), 0);
        due("power(0, 1)", x.power(0, 1), 1);
        due("inverse(0)", x.inverse(0), 0);
        due("commutes()", x.commutes(), 1);
        due("open()", x.open(), 0);
        dueOverlap(x, NONE, NONE, NONE);
        due("step(0, 0)", x.step(0, 0), NONE);
        dueEmptySlots(x);
        due("read() of the empty tape", x.read(), -1000);
        due("fault()", x.fault(), 1);
        due("the tape has", new Counted().feed('a', 1), 1);
    }

    private static void elementsFromTheLeastOn() {
        sentence("4 COMPLETE systems", "ELEMENTS are all IRREDUCIBLE words, from the least on, by numbers 0, 1, ..");
        Counted x = completed("ba;aa=;");
        // The LETTERS are b, a: b is the lesser one.
        String[] words = {"", "a", "b", "aa", "ab", "ba", "aaa", "aab", "aba", "baa", "bab"};
        for (int i = 0; i < words.length; i++) {
            due("element(" + i + ", 0)", x.element(i, 0), words[i].length());
            dueWord(x, 0, words[i]);
            due("number(0)", x.number(0), i);
        }
    }

    private static void stateInAllOfThese() {
        sentence("4 COMPLETE systems", "ELEMENTS (STATE in all of these: it is not COMPLETE).");
        for (Counted x : notComplete()) {
            due("many(0)", x.many(0), STATE);
            due("many(80)", x.many(80), STATE);
            due("size()", x.size(), STATE);
            due("element(0, 0)", x.element(0, 0), STATE);
            due("number(0)", x.number(0), STATE);
            due("product(0, 0)", x.product(0, 0), STATE);
            due("power(0, 0)", x.power(0, 0), STATE);
            due("inverse(0)", x.inverse(0), STATE);
            due("commutes()", x.commutes(), STATE);
        }
    }

    // ---- promises 20 and 21

    private static void manyOf0To80() {
        sentence("promise 20", "How many of n letters (0 .. 80). BAD as a long, STATE as a long");
        Counted x = completed("ab;ba=ab;");
        for (int n : new int[] {-1, 81, LEAST, MOST}) due("many(" + n + ")", x.many(n), BAD);
        due("many(0)", x.many(0), 1);
        due("many(80)", x.many(80), 81);
        due("many(79)", x.many(79), 80);
        for (Counted y : notComplete()) {
            for (int n : new int[] {-1, 81, LEAST, MOST}) due("many(" + n + "): BAD ahead of STATE", y.many(n), BAD);
        }
        x = completed("ab;bbb=;a=;");
        due("many(2)", x.many(2), 1);
        due("many(3)", x.many(3), 0);
        due("many(80)", x.many(80), 0);
    }

    /** Forbidden words all become z, which swallows all. The short ones go first: they keep the row short. */
    private static Counted forbidding(String letters, List<String> words) {
        words.sort(Comparator.comparing(String::length));
        return completed(letters + ";" + String.join("=z;", words) + "=z;");
    }

    /**
     * Words of b .. g with a run of a ahead: but for z, just 10^15 of them have 22 letters. The last that is
     * forbidden, if it is, has 22 letters itself: without it there is one more.
     */
    private static Counted manyWords(boolean oneFewer) {
        List<String> words = new ArrayList<>(List.of("az", "bd", "bg", "cg", "de", "dg", "fd", "ge", "gf", "ab", "ac", "ag"));
        words.addAll(List.of("ba", "ca", "da", "ea", "fa", "ga"));
        int[] runs = {16, 12, 10, 12, 9, 8};
        String[] ends = {"ee", "eb", "fb", "df", "ef", "eg"};
        for (int i = 0; i < runs.length; i++) words.add(times("a", runs[i]) + ends[i]);
        if (oneFewer) words.add(times("a", 20) + "db");
        return forbidding("abcdefgz", words);
    }

    private static void manyUpTo10To15() {
        sentence("promise 20", "FULL as a long: above 10^15.");
        Counted x = manyWords(true);
        due("many(21)", x.many(21), 211346253659832L);
        due("many(22): 10^15", x.many(22), MOST_COUNTED);
        due("many(23)", x.many(23), FULL);
        due("many(80)", x.many(80), FULL);
        due("many(81): BAD ahead of FULL", x.many(81), BAD);
        x = manyWords(false);
        due("many(21)", x.many(21), 211346253659832L);
        due("many(22): 10^15 + 1", x.many(22), FULL);
    }

    private static void sizes() {
        sentence("promise 21", "How many there are; ENDLESS.");
        due("size() of a new object", new Counted().size(), 1);
        due("size(), the empty word alone", completed("abc;a=;b=;c=;").size(), 1);
        due("size()", completed("a;aa=;").size(), 2);
        due("size()", completed("ab;aa=;bbb=;abab=;").size(), 6);
        due("size()", turning(8, 24).size(), 110075314176L);
    }

    private static void endless() {
        sentence("promise 21", "How many there are; ENDLESS.");
        due("size()", system("a;").size(), ENDLESS);
        due("size(), one of each length", completed("ab;b=a;").size(), ENDLESS);
        due("size(), a circle behind a tail", completed("abc;aa=b;ba=b;ab=b;bb=b;ca=b;cb=b;ac=b;").size(), ENDLESS);
        // More than 10^15 of one length, and yet not FULL.
        due("size()", system("abcdefgh;").size(), ENDLESS);
        // More than 10^15 words of a .. f, and g, which may go on for good behind each of them.
        List<String> words = threeClimbs();
        for (int i = 0; i < 3; i++) climb(words, "ace".substring(i, i + 1), "bdf".substring(i, i + 1), 24, 2, 20, 12, 8);
        words.addAll(List.of("ga", "gb", "gc", "gd", "ge", "gf"));
        due("size()", forbidding("abcdefgz", words).size(), ENDLESS);
    }

    /** Words of a and b, of c and d behind them, of e and f behind these. */
    private static List<String> threeClimbs() {
        return new ArrayList<>(List.of("bz", "ca", "cb", "da", "db", "ea", "eb", "fa", "fb", "ec", "ed", "fc", "fd"));
    }

    /**
     * 200000 * 25000 * 200000 words, and z. The last that is forbidden, if it is, is just one of them:
     * nothing can stand ahead of bbbbbbbbb, nothing behind eeeefee.
     */
    private static Counted manyElements(boolean oneFewer) {
        List<String> words = threeClimbs();
        climb(words, "a", "b", 23, 3, 10, 10, 5, 5);
        climb(words, "c", "d", 14, 1, 20, 10, 5);
        climb(words, "e", "f", 23, 3, 10, 10, 5, 5);
        if (oneFewer) words.add(times("b", 9) + "eeeefee");
        return forbidding("abcdefz", words);
    }

    /**
     * A run of a has fewer than most letters. Runs with a b behind them grow: fewer than repeats[j] of them have j letters,
     * and one has as many as there are repeats, or more; behind that comes a run without b that has fewer than rest.
     * Such words are repeats[0] * repeats[1] * .. * (most + (most - how many repeats) * rest).
     */
    private static void climb(List<String> forbidden, String a, String b, int most, int rest, int... repeats) {
        forbidden.add(times(a, most));
        for (int j = 0; j < repeats.length; j++) {
            forbidden.add(times(times(a, j) + b, repeats[j]));
            forbidden.add(times(a, j + 1) + b + (j == repeats.length - 1 ? times(a, rest) : times(a, j) + b));
        }
    }

    private static void sizeUpTo10To15() {
        sentence("promise 21", "STATE, FULL (above 10^15), as longs.");
        Counted x = manyElements(true);
        due("size(): 10^15", x.size(), MOST_COUNTED);
        x = manyElements(false);
        due("size(): 10^15 + 1", x.size(), FULL);
        // They are spelt and numbered all the same.
        int letters = x.element(MOST, 0);
        due("element(2147483647, 0)", letters > 0 ? 1 : 0, 1);
        due("length(0)", x.length(0), letters);
        due("number(0)", x.number(0), MOST);
    }

    // ---- promises 22 and 23

    private static void elementsThatThereAre() {
        sentence("promise 22", "ELEMENT i comes into a SLOT: how many letters. BAD (also: there are not so many)");
        Counted x = completed("ab;aa=;bbb=;abab=;");
        wordText(x, 7, "abab");
        due("element(0, 7)", x.element(0, 7), 0);
        dueWord(x, 7, "");
        due("element(5, 7)", x.element(5, 7), 2);
        dueWord(x, 7, "bb");
        for (int i : new int[] {6, 7, MOST, -1, LEAST}) due("element(" + i + ", 7)", x.element(i, 7), BAD);
        for (int slot : NO_SLOTS) {
            due("element(0, " + slot + ")", x.element(0, slot), BAD);
            due("element(6, " + slot + ")", x.element(6, slot), BAD);
        }
        dueWord(x, 7, "bb");
        // Of the greatest number there is one, too.
        x = system("ab;");
        due("element(2147483647, 0)", x.element(MOST, 0), 31);
        dueWord(x, 0, times("a", 31));
    }

    private static void elementsUpTo80Letters() {
        sentence("promise 22", "FULL: it has more than 80.");
        Counted x = system("a;");
        due("element(80, 0)", x.element(80, 0), 80);
        due("element(81, 0)", x.element(81, 0), FULL);
        due("element(2147483647, 0)", x.element(MOST, 0), FULL);
        for (int slot : NO_SLOTS) due("element(81, " + slot + "): BAD ahead of FULL", x.element(81, slot), BAD);
        // 331776 in all; 1365 of them have more than 80 letters, as many as have fewer than 12.
        x = turning(4, 24);
        due("element(330410, 0)", x.element(330410, 0), 80);
        due("number(0)", x.number(0), 330410);
        due("element(330411, 0)", x.element(330411, 0), FULL);
        due("element(331775, 0), the last", x.element(331775, 0), FULL);
        due("element(331776, 0), not so many", x.element(331776, 0), BAD);
    }

    private static void elementRefusedKeepsTheSlot() {
        sentence("promise 22", "BAD (also: there are not so many); STATE ahead of that; FULL: it has more than 80.");
        Counted x = turning(4, 24);
        wordText(x, 0, "dcba");
        due("element(331775, 0)", x.element(331775, 0), FULL);
        due("element(331776, 0)", x.element(331776, 0), BAD);
        due("element(-1, 0)", x.element(-1, 0), BAD);
        dueWord(x, 0, "dcba");
        for (Counted y : notComplete()) {
            wordText(y, 0, "ba");
            due("element(0, 0)", y.element(0, 0), STATE);
            dueWord(y, 0, "ba");
        }
    }

    private static void elementStateAhead() {
        sentence("promise 22", "BAD (also: there are not so many); STATE ahead of that");
        for (Counted x : notComplete()) {
            due("element(2147483647, 7)", x.element(MOST, 7), STATE);
            for (int i : new int[] {-1, LEAST}) due("element(" + i + ", 0)", x.element(i, 0), BAD);
            for (int slot : NO_SLOTS) {
                due("element(0, " + slot + ")", x.element(0, slot), BAD);
                due("element(2147483647, " + slot + ")", x.element(MOST, slot), BAD);
                due("element(-1, " + slot + ")", x.element(-1, slot), BAD);
            }
        }
    }

    private static void numbers() {
        sentence("promise 23", "The number of the ELEMENT that is the FORM of a SLOT's word.");
        Counted x = completed("ab;bb=;");
        due("number(7), empty", x.number(7), 0);
        due("number of bb", numberOf(x, "bb"), 0);
        due("number of bbb", numberOf(x, "bbb"), 2);
        due("number of abbbab", numberOf(x, "abbbab"), 15);
        dueWord(x, 0, "abbbab");
    }

    private static void numberRefuses() {
        sentence("promise 23", "The number of the ELEMENT that is the FORM of a SLOT's word. BAD; STATE; FULL");
        Counted x = completed("ab;bb=;");
        for (int slot : NO_SLOTS) due("number(" + slot + ")", x.number(slot), BAD);
        for (Counted y : notComplete()) {
            for (int slot : NO_SLOTS) due("number(" + slot + "): BAD ahead of STATE", y.number(slot), BAD);
        }
        x = system("ab;ba=ab;=;");
        x.complete(1);
        due("STATE ahead of FULL", numberOf(x, times("b", 40) + times("a", 40)), STATE);
    }

    private static void numberUpTo1000Steps() {
        sentence("promise 23", "FULL: TOO LONG, or the number is above 2147483647.");
        Counted x = completed("ab;ba=ab;");
        due("1000 STEPS", numberOf(x, times("b", 25) + times("a", 40)), 65 * 66 / 2 + 25);
        due("1001 STEPS", numberOf(x, times("b", 25) + times("a", 39) + "ba"), FULL);
    }

    private static void numberUpTo2147483647() {
        sentence("promise 23", "FULL: TOO LONG, or the number is above 2147483647.");
        Counted x = system("ab;");
        due("2147483646", numberOf(x, times("b", 30)), MOST - 1);
        due("2147483647", numberOf(x, times("a", 31)), MOST);
        due("2147483648", numberOf(x, times("a", 30) + "b"), FULL);
        due("2^32 - 1, which an int would take for -1", numberOf(x, times("a", 32)), FULL);
        due("2^32, which an int would take for 0", numberOf(x, times("a", 31) + "b"), FULL);
        due("far above", numberOf(x, times("b", 80)), FULL);
        x = system("abcdefgh;");
        due("8 LETTERS, 80 of them", numberOf(x, times("h", 80)), FULL);
        due("8 LETTERS, 80 of them", numberOf(x, times("a", 80)), FULL);
    }

    // ---- promise 24

    private static void products() {
        sentence("promise 24", "The number of the FORM of ELEMENT i followed by ELEMENT j. BAD (also: there is no such ELEMENT)");
        Counted x = completed("ab;aa=;bbb=;abab=;");
        due("product(1, 2)", x.product(1, 2), 3);
        due("product(2, 1)", x.product(2, 1), 4);
        due("product(0, 5)", x.product(0, 5), 5);
        due("product(5, 0)", x.product(5, 0), 5);
        for (int i : new int[] {6, -1, LEAST, MOST}) {
            due("product(" + i + ", 0)", x.product(i, 0), BAD);
            due("product(0, " + i + ")", x.product(0, i), BAD);
            due("product(" + i + ", " + i + ")", x.product(i, i), BAD);
        }
        dueEmptySlots(x);
    }

    private static void productStateAhead() {
        sentence("promise 24", "BAD (also: there is no such ELEMENT); STATE ahead of BAD");
        for (Counted x : notComplete()) {
            for (int i : new int[] {-1, LEAST, MOST}) {
                due("product(" + i + ", 0)", x.product(i, 0), STATE);
                due("product(0, " + i + ")", x.product(0, i), STATE);
            }
        }
    }

    private static void productUpTo80Letters() {
        sentence("promise 24", "FULL: they have more than 80 letters together; then as number().");
        Counted x = system("a;");
        due("product(40, 40)", x.product(40, 40), 80);
        due("product(40, 41)", x.product(40, 41), FULL);
        due("product(80, 0)", x.product(80, 0), 80);
        due("product(0, 80)", x.product(0, 80), 80);
        due("product(1, 80)", x.product(1, 80), FULL);
        due("product(81, 0)", x.product(81, 0), FULL);
        due("product(0, 81)", x.product(0, 81), FULL);
        // The letters of both are counted ahead of any STEP.
        x = turning(4, 24);
        due("80 letters", x.product(numberOf(x, times("a", 20) + times("d", 20)), numberOf(x, times("d", 20) + times("a", 20))),
            numberOf(x, times("a", 16) + times("d", 16)));
        due("81 letters", x.product(numberOf(x, sorted(20, 0, 0, 20)), numberOf(x, sorted(20, 0, 0, 21))), FULL);
        due("BAD ahead of FULL", x.product(331775, 331776), BAD);
        due("BAD ahead of FULL", x.product(331776, 331775), BAD);
        due("BAD ahead of FULL", x.product(331775, -1), BAD);
        due("more than 80 letters", x.product(331775, 0), FULL);
    }

    private static void productAsNumber() {
        sentence("promise 24", "FULL: they have more than 80 letters together; then as number().");
        Counted x = system("ab;");
        due("2147483647", x.product(32767, 65535), MOST);
        due("2147483648", x.product(32767, 65536), FULL);
        x = completed("abc;ba=ab;ca=ac;cb=bc;");
        int first = numberOf(x, times("b", 24) + "c");
        due("1000 STEPS", x.product(first, numberOf(x, times("a", 40))), numberOf(x, sorted(40, 24, 1, 0)));
        due("1001 STEPS", x.product(first, numberOf(x, times("a", 40) + "b")), FULL);
    }

    // ---- promise 25

    private static void powersAreProducts() {
        sentence("promise 25", "Powers of ELEMENT i from the 0th (the empty word) on, each the product of the one ahead and i, "
            + "up to the first that was there already");
        for (String text : new String[] {"ab;aa=;bbb=;abab=;", "ab;aaaa=aa;bb=b;bab=b;", "abc;aaa=a;bb=a;ba=ab;cc=;ca=c;cb=c;"}) {
            Counted x = completed(text);
            int all = (int) x.size();
            for (int i = 0; i < all && i < 24; i++) duePowersAsProducts(x, text, i);
        }
    }

    private static void duePowersAsProducts(Counted x, String text, int i) {
        List<Integer> powers = new ArrayList<>();
        int next = 0;
        while (!powers.contains(next)) {
            powers.add(next);
            next = x.product(next, i);
        }
        due("power(" + i + ", 0) of " + text, x.power(i, 0), powers.indexOf(next));
        due("power(" + i + ", 1) of " + text, x.power(i, 1), powers.size() - powers.indexOf(next));
    }

    private static void powerIsAheadOfI() {
        sentence("promise 25", "each the product of the one ahead and i");
        // Its 19th power is a^19 b^19 c d: this by i has few STEPS, i by this is TOO LONG.
        Counted x = turning(4, 20);
        int i = numberOf(x, sorted(1, 1, 19, 19));
        int nineteenth = numberOf(x, sorted(19, 19, 1, 1));
        due("the 19th power by i", x.product(nineteenth, i), 0);
        due("i by its 19th power", x.product(i, nineteenth), FULL);
        due("power(" + i + ", 0)", x.power(i, 0), 0);
        due("power(" + i + ", 1)", x.power(i, 1), 20);
    }

    private static void powers() {
        sentence("promise 25", "what = 0 which power that is the same as, 1 how many later it comes");
        Counted x = completed("a;" + times("a", 9) + "=aaaa;");
        due("power(0, 0), the empty word", x.power(0, 0), 0);
        due("power(0, 1)", x.power(0, 1), 1);
        due("power(1, 0)", x.power(1, 0), 4);
        due("power(1, 1)", x.power(1, 1), 5);
        due("power(5, 0)", x.power(5, 0), 1);
        due("power(5, 1)", x.power(5, 1), 1);
        due("power(8, 0), the last", x.power(8, 0), 1);
        due("power(8, 1)", x.power(8, 1), 5);
    }

    /** a is of order 20 * more + rest: b is its 20th power. */
    private static Counted cycle(int more, int rest) {
        return completed("ab;" + times("a", 20) + "=b;" + times("b", more) + times("a", rest) + "=;ba=ab;");
    }

    private static void powersUpTo200() {
        sentence("promise 25", "NONE: none of the first 200 behind the 0th comes again.");
        Counted x = cycle(10, 0);
        due("size()", x.size(), 200);
        due("the 200th is the 0th", x.power(1, 0), 0);
        due("the 200th is the 0th", x.power(1, 1), 200);
        x = cycle(10, 1);
        due("size()", x.size(), 201);
        due("the 201st is the 0th", x.power(1, 0), NONE);
        due("the 201st is the 0th", x.power(1, 1), NONE);
        due("power(1, 2): BAD, not NONE", x.power(1, 2), BAD);
    }

    private static void powerRefuses() {
        sentence("promise 25", "BAD: i, what; STATE ahead of BAD");
        Counted x = completed("a;" + times("a", 9) + "=aaaa;");
        for (int i : new int[] {9, -1, LEAST, MOST}) due("power(" + i + ", 0)", x.power(i, 0), BAD);
        for (int what : new int[] {-1, 2, LEAST, MOST}) due("power(1, " + what + ")", x.power(1, what), BAD);
        for (Counted y : notComplete()) {
            for (int wild : new int[] {-1, LEAST, MOST}) {
                due("power(" + wild + ", 0)", y.power(wild, 0), STATE);
                due("power(0, " + wild + ")", y.power(0, wild), STATE);
            }
            due("power(0, 2)", y.power(0, 2), STATE);
        }
        x = system("a;");
        due("BAD ahead of FULL", x.power(81, 2), BAD);
    }

    private static void powerUpTo80Letters() {
        sentence("promise 25", "FULL: as product(), at any of them.");
        Counted x = system("a;");
        due("power(1, 0): the 81st", x.power(1, 0), FULL);
        due("power(41, 0): the second", x.power(41, 0), FULL);
        due("power(81, 0): the first", x.power(81, 0), FULL);
        due("power(81, 1)", x.power(81, 1), FULL);
        x = turning(4, 24);
        int of40 = numberOf(x, sorted(16, 16, 8, 0));
        due("40 letters twice", x.power(of40, 0), 0);
        due("40 letters twice", x.power(of40, 1), 3);
        due("41 letters twice", x.power(numberOf(x, sorted(16, 16, 8, 1)), 0), FULL);
        due("power(1, 1)", x.power(1, 1), 24);
        due("more than 80 letters once", x.power(331775, 0), FULL);
        due("more than 80 letters once", x.power(331775, 1), FULL);
        // 27 letters are joined to 54, not to 26, what is left of these.
        due("27 letters", x.power(numberOf(x, sorted(13, 14, 0, 0)), 1), 24);
    }

    private static void powerAsNumber() {
        sentence("promise 25", "FULL: as product(), at any of them.");
        Counted x = system("ab;");
        due("the 32nd power is numbered too high", x.power(1, 0), FULL);
        due("2147483647: the second", x.power(MOST, 0), FULL);
        // Number 2147483647 of 8 LETTERS, made equal to its square.
        x = system("abcdefgh;");
        due("element(2147483647, 0)", x.element(MOST, 0), 11);
        String greatest = slotText(x, 0);
        x = completed("abcdefgh;" + greatest + greatest + "=" + greatest + ";");
        due("number of " + greatest, numberOf(x, greatest), MOST);
        due("power(2147483647, 0)", x.power(MOST, 0), 1);
        due("power(2147483647, 1)", x.power(MOST, 1), 1);
    }

    private static void powerUpTo1000Steps() {
        sentence("promise 25", "FULL: as product(), at any of them.");
        // Each of these two is its own square: it runs the counter down and is left when f has swallowed what that left.
        Counted x = completed("abcdef;" + COUNTER + "ef=af;fa=f;fd=f;ff=f;");
        int of1000 = numberOf(x, "dfbbbccccbcce");
        due("1000 STEPS", x.product(of1000, of1000), of1000);
        due("power, 1000 STEPS", x.power(of1000, 0), 1);
        due("power, 1000 STEPS", x.power(of1000, 1), 1);
        int of1001 = numberOf(x, "fcccccbbbe");
        due("it has a number", of1001 > 0 ? 1 : 0, 1);
        due("1001 STEPS", x.product(of1001, of1001), FULL);
        due("power, 1001 STEPS", x.power(of1001, 0), FULL);
        due("power, 1001 STEPS", x.power(of1001, 1), FULL);
        due("BAD ahead of FULL", x.power(of1001, 2), BAD);
    }

    // ---- promises 26 and 27

    private static void inverses() {
        sentence("promise 26", "with which both products of i and j are the empty word; NONE.");
        Counted x = completed("ab;aa=;bbb=;abab=;");
        int[] inverses = {0, 1, 5, 3, 4, 2};
        for (int i = 0; i < 6; i++) due("inverse(" + i + ")", x.inverse(i), inverses[i]);
        x = completed("ab;aa=a;b=;");
        due("inverse(1), two ELEMENTS in all", x.inverse(1), NONE);
        x = completed("ab;ab=;");
        due("a by b alone", x.inverse(1), NONE);
        due("b by a alone", x.inverse(2), NONE);
    }

    private static void inversesBelow400() {
        sentence("promise 26", "The least ELEMENT j, below 400");
        // 576 ELEMENTS, the powers of a: each has an inverse.
        Counted x = completed("ab;" + times("a", 24) + "=b;" + times("b", 24) + "=;ba=ab;");
        int of399 = x.inverse(399);
        due("inverse(" + of399 + ")", x.inverse(of399), 399);
        int of400 = x.inverse(400);
        due("product(400, " + of400 + ")", x.product(400, of400), 0);
        due("inverse(" + of400 + ")", x.inverse(of400), NONE);
    }

    private static void inverseRefuses() {
        sentence("promise 26", "BAD: i; STATE ahead of BAD");
        Counted x = completed("ab;aa=;bbb=;abab=;");
        for (int i : new int[] {6, -1, LEAST, MOST}) due("inverse(" + i + ")", x.inverse(i), BAD);
        for (Counted y : notComplete()) {
            for (int i : new int[] {-1, LEAST, MOST}) due("inverse(" + i + ")", y.inverse(i), STATE);
        }
    }

    private static void inverseUpTo80Letters() {
        sentence("promise 26", "FULL: as product(), at any that is asked for");
        Counted x = system("a;");
        due("inverse(0) is found first", x.inverse(0), 0);
        due("inverse(1)", x.inverse(1), FULL);
        due("inverse(80)", x.inverse(80), FULL);
        due("inverse(81)", x.inverse(81), FULL);
        // All ELEMENTS below 400 have 8 letters at most, and one of them has 8.
        x = turning(4, 24);
        due("72 letters", x.inverse(numberOf(x, sorted(18, 18, 18, 18))), NONE);
        due("73 letters", x.inverse(numberOf(x, sorted(18, 18, 18, 19))), FULL);
        // With its inverse it has just 80 letters; those that would be too long are not come to.
        x = turning(4, 20);
        due("76 letters", x.inverse(numberOf(x, sorted(19, 19, 19, 19))), numberOf(x, "abcd"));
    }

    private static void inverseAsNumber() {
        sentence("promise 26", "FULL: as product(), at any that is asked for (j from 0 on; first i by j, then, if that is the empty word, j by i).");
        // b^37 by a^27 wants 999 STEPS, b^38 by it 1026; a^28 is number 406.
        Counted x = completed("ab;ba=ab;");
        due("inverse of b^37", x.inverse(numberOf(x, times("b", 37))), NONE);
        due("inverse of b^38", x.inverse(numberOf(x, times("b", 38))), FULL);
        // b^27 by a^40 would be TOO LONG, but is not asked for: a^40 by b^27 is not the empty word.
        due("inverse of a^40", x.inverse(numberOf(x, times("a", 40))), NONE);
        // aaaaaaaaaa by h is the empty word, and h by it is numbered too high.
        x = completed("abcdefgh;" + times("a", 10) + "h=;");
        due("inverse of aaaaaaaaaa", x.inverse(numberOf(x, times("a", 10))), FULL);
        // Number 399 has 8 letters: behind b^22 it is 2147483535, behind a^23 it would be above 2147483647.
        x = system("ab;");
        due("inverse(8388606)", x.inverse(8388606), NONE);
        due("inverse(8388607)", x.inverse(8388607), FULL);
    }

    private static String allCommuteBut(String pair) {
        StringBuilder t = new StringBuilder("abcdefgh;");
        for (char b = 'a'; b <= 'h'; b++) {
            for (char a = 'a'; a < b; a++) {
                if (!pair.equals("" + a + b)) t.append(b).append(a).append('=').append(a).append(b).append(';');
            }
        }
        return t.toString();
    }

    private static void commuting() {
        sentence("promise 27", "Whether each two LETTERS, one behind the other, have one FORM both ways: 1, 0. STATE.");
        due("no LETTERS", new Counted().commutes(), 1);
        due("one LETTER", system("a;").commutes(), 1);
        due("two LETTERS", system("ab;").commutes(), 0);
        due("two LETTERS", completed("ab;ba=ab;").commutes(), 1);
        due("two LETTERS", completed("ab;aa=;bb=;abab=;").commutes(), 1);
        due("one is the other", completed("ab;b=a;").commutes(), 1);
        due("eight LETTERS", completed(allCommuteBut("")).commutes(), 1);
        due("a and c alone do not", completed("abc;b=;aa=;cc=;aca=cac;").commutes(), 0);
        for (String pair : new String[] {"ab", "de", "gh"}) due("all but " + pair, completed(allCommuteBut(pair)).commutes(), 0);
    }
}
