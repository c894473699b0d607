/** Edges of words and SLOTS: "2 WORDS", "SLOTS 0 .. 7" and promises 13 to 19, sentence by sentence. */
public final class WordEdgesTest extends Checks {
    private static final int[] NO_SLOTS = {-1, 8, LEAST, MOST};
    // With ba>ab these want just 1000 and 1001 STEPS.
    private static final String STEPS_1000 = times("b", 25) + times("a", 40);
    private static final String STEPS_1001 = times("b", 25) + times("a", 39) + "ba";

    public static void main(String[] args) {
        lesserWords();
        leftBecomesRight();
        slotsAreEightAndEmpty();
        slotsHold80();
        readingEmptiesSlots();
        lengths();
        letters();
        joins();
        joinIntoOneOfTheTwo();
        joinUpTo80();
        reduces();
        reducesUpTo1000Steps();
        reducesWithLiveRulesAlone();
        stepsOfTheLatestThatWasNotRefused();
        stepsOfThisSystem();
        first300StepsAreKept();
        stepRefuses();
        sameIs1Or0OrNone();
        sameRefuses();
        sameUpTo1000Steps();
        compares();
        end();
    }

    private static Counted sorting() {
        return completed("ab;ba=ab;");
    }

    // ---- 2 WORDS, and SLOTS

    private static void lesserWords() {
        sentence("2 WORDS", "The lesser of two words is the shorter one; of two as long as each other the one with the lesser letter "
            + "where they differ first.");
        // From the least on; the letter that stands first is the least, whatever its name.
        String[] words = {"", "b", "a", "bb", "ba", "ab", "aa", "bbb", "bba", "bab", "baa", "abb", "aba", "aab", "aaa"};
        Counted x = system("ba;");
        for (int i = 0; i + 1 < words.length; i++) {
            wordText(x, 0, words[i]);
            wordText(x, 1, words[i + 1]);
            due("compare " + words[i] + ", " + words[i + 1], x.compare(0, 1), -1);
            due("compare " + words[i + 1] + ", " + words[i], x.compare(1, 0), 1);
        }
        wordText(x, 0, times("b", 80));
        wordText(x, 1, times("b", 79) + "a");
        due("the 80th letter", x.compare(0, 1), -1);
        wordText(x, 1, times("a", 79));
        due("the shorter one", x.compare(0, 1), 1);
    }

    private static void leftBecomesRight() {
        sentence("2 WORDS", "that LEFT there becomes its RIGHT.");
        Counted x = system("abcd;dcb=caa;db=;dd=a;");
        due("complete(3)", x.complete(3), 0);
        dueRule(x, 0, "dcb>caa");
        // As long as it, shorter, empty; in the middle, at the beginning, at the end, the whole word.
        String[] words = {"adcba", "dcba", "adcb", "dcb", "adda", "dda", "add", "adba", "dba", "adb", "db"};
        String[] forms = {"acaaa", "caaa", "acaa", "caa", "aaa", "aa", "aa", "aa", "a", "a", ""};
        for (int i = 0; i < words.length; i++) {
            wordText(x, 0, words[i]);
            due("reduce(0) of " + words[i], x.reduce(0), 1);
            dueWord(x, 0, forms[i]);
        }
        // Nowhere else, till the next STEP; and what comes of one STEP is reduced again.
        wordText(x, 0, "dbcdb");
        due("reduce(0) of dbcdb", x.reduce(0), 2);
        dueWord(x, 0, "c");
        wordText(x, 0, "ddbb");
        due("reduce(0) of ddbb", x.reduce(0), 1);
        dueWord(x, 0, "abb");
        wordText(x, 0, "cddbdcb");
        due("reduce(0) of cddbdcb", x.reduce(0), 2);
        dueWord(x, 0, "cabcaa");
    }

    private static void slotsAreEightAndEmpty() {
        sentence("SLOTS", "SLOTS 0 .. 7 hold a word each (none of its letters at first)");
        dueEmptySlots(new Counted());
        Counted x = system("ab;");
        dueEmptySlots(x);
        for (int slot = 0; slot < 8; slot++) wordText(x, slot, times("a", slot) + "b");
        for (int slot = 0; slot < 8; slot++) dueWord(x, slot, times("a", slot) + "b");
    }

    private static void slotsHold80() {
        sentence("SLOTS", "of 80 letters at most");
        Counted x = system("ab;");
        wordText(x, 0, times("a", 80));
        due("join(1, 0, 1)", x.join(1, 0, 1), 80);
        due("letter(1, 79)", x.letter(1, 79), 0);
        due("letter(1, 80)", x.letter(1, 80), NONE);
        wordText(x, 2, "b");
        due("join(1, 0, 2)", x.join(1, 0, 2), FULL);
        due("length(1)", x.length(1), 80);
    }

    private static void readingEmptiesSlots() {
        sentence("SLOTS", "reading a PRESENTATION empties them");
        Counted x = system("ab;");
        for (int slot = 0; slot < 8; slot++) wordText(x, slot, "ab");
        due("a FAULT", readText(x, "ab;c"), -1003);
        for (int slot = 0; slot < 8; slot++) due("length(" + slot + ")", x.length(slot), 2);
        due("the same text again", readText(x, "ab;"), 0);
        dueEmptySlots(x);
    }

    // ---- promises 13 to 15

    private static void lengths() {
        sentence("promise 13", "How long a SLOT's word is. BAD.");
        Counted x = system("ab;");
        wordText(x, 0, "ab");
        wordText(x, 7, times("b", 80));
        due("length(0)", x.length(0), 2);
        due("length(1)", x.length(1), 0);
        due("length(7)", x.length(7), 80);
        for (int slot : NO_SLOTS) due("length(" + slot + ")", x.length(slot), BAD);
    }

    private static void letters() {
        sentence("promise 14", "Letter i of a SLOT's word; NONE. BAD.");
        Counted x = system("xyz;");
        wordText(x, 7, "zyx");
        due("letter(7, 0)", x.letter(7, 0), 2);
        due("letter(7, 2)", x.letter(7, 2), 0);
        for (int i : new int[] {3, 80, -1, LEAST, MOST}) due("letter(7, " + i + ")", x.letter(7, i), NONE);
        due("an empty word", x.letter(0, 0), NONE);
        for (int slot : NO_SLOTS) {
            due("letter(" + slot + ", 0)", x.letter(slot, 0), BAD);
            due("letter(" + slot + ", -1)", x.letter(slot, -1), BAD);
        }
        // Of a longer word that was there before nothing is told.
        wordText(x, 7, "y");
        due("letter(7, 1)", x.letter(7, 1), NONE);
    }

    private static void joins() {
        sentence("promise 15", "A SLOT becomes what two of them hold, the second behind the first: how many letters. BAD");
        Counted x = system("ab;");
        wordText(x, 0, "aab");
        wordText(x, 7, "ba");
        due("join(3, 0, 7)", x.join(3, 0, 7), 5);
        dueWord(x, 3, "aabba");
        due("join(3, 7, 0)", x.join(3, 7, 0), 5);
        dueWord(x, 3, "baaab");
        due("join(3, 1, 2), both empty", x.join(3, 1, 2), 0);
        due("length(3)", x.length(3), 0);
        for (int slot : NO_SLOTS) {
            due("join(" + slot + ", 0, 7)", x.join(slot, 0, 7), BAD);
            due("join(0, " + slot + ", 7)", x.join(0, slot, 7), BAD);
            due("join(0, 7, " + slot + ")", x.join(0, 7, slot), BAD);
        }
        dueWord(x, 0, "aab");
        dueWord(x, 7, "ba");
    }

    private static void joinIntoOneOfTheTwo() {
        sentence("promise 15", "A SLOT becomes what two of them hold, the second behind the first");
        Counted x = system("ab;");
        wordText(x, 0, "a");
        wordText(x, 1, "bb");
        due("join(0, 0, 1)", x.join(0, 0, 1), 3);
        dueWord(x, 0, "abb");
        due("join(1, 0, 1)", x.join(1, 0, 1), 5);
        dueWord(x, 1, "abbbb");
        due("join(0, 0, 0)", x.join(0, 0, 0), 6);
        dueWord(x, 0, "abbabb");
    }

    private static void joinUpTo80() {
        sentence("promise 15", "FULL: more than 80.");
        Counted x = system("ab;");
        wordText(x, 0, times("a", 40));
        wordText(x, 1, times("b", 41));
        wordText(x, 2, "ab");
        due("join(2, 0, 1)", x.join(2, 0, 1), FULL);
        dueWord(x, 2, "ab");
        due("join(1, 1, 0)", x.join(1, 1, 0), FULL);
        due("length(1)", x.length(1), 41);
        due("join(8, 0, 1): BAD ahead of FULL", x.join(8, 0, 1), BAD);
        due("join(2, 0, 0)", x.join(2, 0, 0), 80);
        due("join(3, 2, 4)", x.join(3, 2, 4), 80);
        due("join(3, 2, 2)", x.join(3, 2, 2), FULL);
        dueWord(x, 3, times("a", 80));
    }

    // ---- promises 16 and 17

    private static void reduces() {
        sentence("promise 16", "A SLOT becomes the FORM of its word: how many STEPS. BAD");
        Counted x = sorting();
        wordText(x, 7, "bbaa");
        due("reduce(7)", x.reduce(7), 4);
        dueWord(x, 7, "aabb");
        due("reduce(7), IRREDUCIBLE", x.reduce(7), 0);
        due("reduce(0), empty", x.reduce(0), 0);
        for (int slot : NO_SLOTS) due("reduce(" + slot + ")", x.reduce(slot), BAD);
        due("reduce(0) of a new object", new Counted().reduce(0), 0);
        x = completed("ab;a=;b=;");
        wordText(x, 0, times("ab", 40));
        due("80 letters to none", x.reduce(0), 80);
        due("length(0)", x.length(0), 0);
    }

    private static void reducesUpTo1000Steps() {
        sentence("promise 16", "FULL: TOO LONG.");
        Counted x = sorting();
        wordText(x, 0, STEPS_1000);
        due("reduce(0)", x.reduce(0), 1000);
        due("letter(0, 39)", x.letter(0, 39), 0);
        due("letter(0, 40)", x.letter(0, 40), 1);
        wordText(x, 1, STEPS_1001);
        due("reduce(1)", x.reduce(1), FULL);
        dueWord(x, 1, STEPS_1001);
    }

    private static void reducesWithLiveRulesAlone() {
        sentence("2 WORDS", "What has no such place is IRREDUCIBLE: the FORM of what it came from.");
        Counted x = system("abc;cabc=a;ca=ab;");
        wordText(x, 0, "cabc");
        due("reduce(0) without RULES", x.reduce(0), 0);
        x.complete(1);
        due("reduce(0)", x.reduce(0), 1);
        dueWord(x, 0, "a");
        x.complete(1);
        wordText(x, 0, "cabc");
        due("reduce(0), RULE 0 dropped", x.reduce(0), 1);
        due("step(0, 0)", x.step(0, 0), 1);
        dueWord(x, 0, "abbc");
    }

    private static void dueSteps(Counted x, int... rulesAndPlaces) {
        int steps = rulesAndPlaces.length / 2;
        for (int i = 0; i < steps; i++) {
            due("step(" + i + ", 0)", x.step(i, 0), rulesAndPlaces[2 * i]);
            due("step(" + i + ", 1)", x.step(i, 1), rulesAndPlaces[2 * i + 1]);
        }
        due("step(" + steps + ", 0)", x.step(steps, 0), NONE);
        due("step(" + steps + ", 1)", x.step(steps, 1), NONE);
    }

    private static void stepsOfTheLatestThatWasNotRefused() {
        sentence("promise 17", "Of STEP i of the latest reduce() that was not refused");
        Counted x = completed("abc;ba=ab;cc=;");
        dueSteps(x);
        wordText(x, 0, "bacc");
        wordText(x, 1, STEPS_1001);
        wordText(x, 2, "cccc");
        due("reduce(0)", x.reduce(0), 2);
        dueSteps(x, 0, 0, 1, 2);
        for (int slot : NO_SLOTS) x.reduce(slot);
        due("reduce(1), refused", x.reduce(1), FULL);
        // REDUCINGS of other calls are no reduce().
        x.same(1, 2);
        x.same(2, 2);
        x.number(2);
        x.product(3, 3);
        x.power(3, 0);
        x.inverse(3);
        x.commutes();
        x.open();
        x.complete(1);
        dueSteps(x, 0, 0, 1, 2);
        due("reduce(2)", x.reduce(2), 2);
        dueSteps(x, 1, 0, 1, 0);
        due("reduce(2), no STEP", x.reduce(2), 0);
        dueSteps(x);
    }

    private static void stepsOfThisSystem() {
        sentence("promise 17", "(of this system; its first 300 are kept)");
        Counted x = completed("ab;bb=;");
        wordText(x, 0, "bb");
        due("reduce(0)", x.reduce(0), 1);
        readText(x, "ab;c");
        dueSteps(x, 0, 0);
        readText(x, "ab;bb=;");
        dueSteps(x);
        // The STEPS stay when RULES come.
        x = system("ab;bb=;b=;");
        x.complete(1);
        wordText(x, 0, "abb");
        due("reduce(0)", x.reduce(0), 1);
        x.complete(500);
        dueSteps(x, 0, 1);
    }

    private static void first300StepsAreKept() {
        sentence("promise 17", "its first 300 are kept");
        Counted x = sorting();
        wordText(x, 0, times("b", 13) + times("a", 23));
        due("299 STEPS", x.reduce(0), 299);
        due("step(298, 0)", x.step(298, 0), 0);
        due("step(299, 0)", x.step(299, 0), NONE);
        wordText(x, 0, times("b", 20) + times("a", 15));
        due("300 STEPS", x.reduce(0), 300);
        due("step(299, 0)", x.step(299, 0), 0);
        due("step(299, 1)", x.step(299, 1), 14);
        due("step(300, 0)", x.step(300, 0), NONE);
        wordText(x, 0, times("b", 20) + times("a", 15) + "ba");
        due("more STEPS", x.reduce(0), 321);
        due("step(0, 1)", x.step(0, 1), 19);
        due("step(299, 0)", x.step(299, 0), 0);
        due("step(299, 1)", x.step(299, 1), 14);
        due("step(300, 0)", x.step(300, 0), NONE);
        due("step(320, 1)", x.step(320, 1), NONE);
    }

    private static void stepRefuses() {
        sentence("promise 17", "0 the RULE, 1 the place at which its LEFT began. NONE: there is none such. BAD.");
        Counted x = completed("ab;bb=;");
        for (int what : new int[] {-1, 2, LEAST, MOST}) due("step(0, " + what + ")", x.step(0, what), BAD);
        wordText(x, 0, "abb");
        x.reduce(0);
        dueSteps(x, 0, 1);
        for (int what : new int[] {-1, 2, LEAST, MOST}) due("step(0, " + what + ")", x.step(0, what), BAD);
        for (int i : new int[] {-1, 300, LEAST, MOST}) {
            due("step(" + i + ", 0)", x.step(i, 0), NONE);
            due("step(" + i + ", 2)", x.step(i, 2), BAD);
        }
    }

    // ---- promises 18 and 19

    private static void sameIs1Or0OrNone() {
        sentence("promise 18", "Whether what two SLOTS hold has one FORM: 1; else 0, or NONE while it is not COMPLETE.");
        due("two empty words", new Counted().same(0, 7), 1);
        Counted x = system("ab;ba=ab;b=b;");
        wordText(x, 0, "ab");
        wordText(x, 7, "ba");
        wordText(x, 2, "ab");
        due("same(0, 7), no RULE", x.same(0, 7), NONE);
        due("same(0, 2), no RULE", x.same(0, 2), 1);
        due("same(7, 7)", x.same(7, 7), 1);
        x.complete(1);
        due("same(0, 7), not COMPLETE", x.same(0, 7), 1);
        due("same(0, 3), not COMPLETE", x.same(0, 3), NONE);
        x.complete(1);
        due("same(0, 7), COMPLETE", x.same(0, 7), 1);
        due("same(0, 3), COMPLETE", x.same(0, 3), 0);
        dueWord(x, 7, "ba");
        x = system("ab;ba=bb;");
        due("complete(500)", x.complete(500), 2);
        wordText(x, 0, "a");
        due("same(0, 1), STUCK", x.same(0, 1), NONE);
        due("same(0, 0), STUCK", x.same(0, 0), 1);
    }

    private static void sameRefuses() {
        sentence("promise 18", "or NONE while it is not COMPLETE. BAD; FULL: TOO LONG.");
        Counted x = sorting();
        wordText(x, 0, STEPS_1001);
        for (int slot : NO_SLOTS) {
            due("same(" + slot + ", 1)", x.same(slot, 1), BAD);
            due("same(1, " + slot + ")", x.same(1, slot), BAD);
            due("same(0, " + slot + "): BAD ahead of FULL", x.same(0, slot), BAD);
        }
        x = system("ab;ba=ab;=;");
        x.complete(1);
        wordText(x, 0, STEPS_1001);
        due("same(0, 1): FULL, not NONE", x.same(0, 1), FULL);
    }

    private static void sameUpTo1000Steps() {
        sentence("promise 18", "FULL: TOO LONG.");
        Counted x = sorting();
        wordText(x, 0, STEPS_1000);
        wordText(x, 1, STEPS_1001);
        wordText(x, 2, times("a", 40) + times("b", 25));
        due("same(0, 2)", x.same(0, 2), 1);
        due("same(2, 0)", x.same(2, 0), 1);
        due("same(0, 0)", x.same(0, 0), 1);
        due("same(1, 2)", x.same(1, 2), FULL);
        due("same(2, 1)", x.same(2, 1), FULL);
        due("same(1, 1)", x.same(1, 1), FULL);
        dueWord(x, 1, STEPS_1001);
    }

    private static void compares() {
        sentence("promise 19", "Which of two words is the greater: 1 the first, -1 the second, 0 they are the same. BAD as -2.");
        Counted x = sorting();
        wordText(x, 0, "ba");
        wordText(x, 7, "ab");
        due("compare(0, 7), as they are", x.compare(0, 7), 1);
        due("compare(7, 0)", x.compare(7, 0), -1);
        due("compare(0, 0)", x.compare(0, 0), 0);
        due("compare(1, 2), both empty", x.compare(1, 2), 0);
        due("compare(1, 7)", x.compare(1, 7), -1);
        due("compare(7, 1)", x.compare(7, 1), 1);
        for (int slot : NO_SLOTS) {
            due("compare(" + slot + ", 0)", x.compare(slot, 0), -2);
            due("compare(0, " + slot + ")", x.compare(0, slot), -2);
            due("compare(" + slot + ", " + slot + ")", x.compare(slot, slot), -2);
        }
    }
}
