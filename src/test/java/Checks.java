import java.io.IOException;
import java.io.UncheckedIOException;
import java.nio.file.Files;
import java.nio.file.Path;

/** What the tests of single promises share: texts put on the tape, words and pairs told as texts, the count of what is wrong. */
abstract class Checks {
    static final int NONE = -1, BAD = -2, STATE = -3, FULL = -4, ENDLESS = -5;
    static final int LEAST = Integer.MIN_VALUE, MOST = Integer.MAX_VALUE;
    /** Three RULES of a counter that runs down in ever more STEPS: c is its 1, b its 0, and "ef" (to be "af") starts it. */
    static final String COUNTER = "ba=ad;ca=be;ed=ce;";
    private static final Path DOCUMENT = Path.of("../shared/DOC.md");
    private static String document = "";
    private static String heading = "";
    private static int wrong = 0;

    /** What follows holds a sentence of the document, which is looked up there: a test of no sentence is a wrong test. */
    static void sentence(String where, String quoted) {
        heading = where + ": \"" + quoted + "\"";
        if (document.isEmpty()) document = onOneLine(readDocument());
        if (!document.contains(onOneLine(quoted))) fail("no such sentence stands in the document");
    }

    static void promise(String name) {
        heading = name;
    }

    private static String readDocument() {
        try {
            return Files.readString(DOCUMENT);
        } catch (IOException e) {
            throw new UncheckedIOException(e);
        }
    }

    private static String onOneLine(String text) {
        return text.replaceAll("\\s+", " ");
    }

    static void due(String call, long got, long want) {
        if (got != want) fail(call + " answered " + got + ", due is " + want);
    }

    static void dueText(String what, String got, String want) {
        if (!got.equals(want)) fail(what + " is \"" + got + "\", due is \"" + want + "\"");
    }

    static void fail(String what) {
        wrong++;
        System.out.println(heading + ": " + what);
    }

    /** Ends the test: with exit code 1 if something was wrong. */
    static void end() {
        System.out.println(wrong == 0 ? "all answers are as due" : wrong + " things are not as due");
        if (wrong != 0) System.exit(1);
    }

    static String times(String s, int n) {
        return s.repeat(n);
    }

    static int put(Counted x, String text) {
        int answer = 0;
        for (int i = 0; i < text.length(); i += 8) {
            int n = Math.min(8, text.length() - i);
            long w = 0;
            for (int k = 0; k < n; k++) w = w << 8 | (text.charAt(i + k) & 255);
            answer = x.feed(w, n);
        }
        return answer;
    }

    static int readText(Counted x, String text) {
        put(x, text);
        return x.read();
    }

    static int wordText(Counted x, int slot, String text) {
        put(x, text);
        return x.word(slot);
    }

    static Counted system(String text) {
        Counted x = new Counted();
        if (readText(x, text) < 0) fail("the test's own text is wrong: " + text);
        return x;
    }

    static Counted completed(String text) {
        Counted x = system(text);
        int answer = 0;
        for (int i = 0; i < 40 && answer == 0; i++) answer = x.complete(500);
        due("complete of " + text, answer, 1);
        return x;
    }

    /** The letters that are told one by one, the LETTERS being a, b, .. */
    private interface Letters {
        int at(int i);
    }

    private static String spelt(Letters letters) {
        StringBuilder t = new StringBuilder();
        int letter = letters.at(0);
        while (letter >= 0) {
            t.append((char) ('a' + letter));
            letter = letters.at(t.length());
        }
        return t.toString();
    }

    static String slotText(Counted x, int slot) {
        return spelt(i -> x.letter(slot, i));
    }

    static String ruleText(Counted x, int rule) {
        return spelt(i -> x.ruleLetter(rule, 0, i)) + ">" + spelt(i -> x.ruleLetter(rule, 1, i));
    }

    static String pairText(Counted x, int k) {
        return spelt(i -> x.waiting(k, 0, i)) + "=" + spelt(i -> x.waiting(k, 1, i));
    }

    static void dueWord(Counted x, int slot, String want) {
        dueText("slot " + slot, slotText(x, slot), want);
        due("length(" + slot + ")", x.length(slot), want.length());
    }

    static void dueRule(Counted x, int rule, String want) {
        dueText("rule " + rule, ruleText(x, rule), want);
    }

    static void duePair(Counted x, int k, String want) {
        dueText("pair " + k, pairText(x, k), want);
    }

    static void duePairs(Counted x, String... want) {
        due("count(3)", x.count(3), want.length);
        for (int k = 0; k < want.length; k++) duePair(x, k, want[k]);
    }

    static void dueCounts(Counted x, int... want) {
        for (int i = 0; i < want.length; i++) due("count(" + i + ")", x.count(i), want[i]);
    }

    static void dueLive(Counted x, int... want) {
        for (int i = 0; i < want.length; i++) due("rule(" + i + ", 0)", x.rule(i, 0), want[i]);
    }

    static void dueOverlap(Counted x, int first, int second, int shared) {
        due("overlap(0)", x.overlap(0), first);
        due("overlap(1)", x.overlap(1), second);
        due("overlap(2)", x.overlap(2), shared);
    }

    static void dueEmptySlots(Counted x) {
        for (int i = 0; i < 8; i++) due("length(" + i + ")", x.length(i), 0);
    }

    /** So many letters that commute, each with the same number of powers. */
    static Counted turning(int letters, int powers) {
        StringBuilder t = new StringBuilder("abcdefgh".substring(0, letters)).append(';');
        for (int i = 0; i < letters; i++) {
            for (int j = 0; j < i; j++) {
                String a = String.valueOf((char) ('a' + i));
                String b = String.valueOf((char) ('a' + j));
                t.append(a).append(b).append('=').append(b).append(a).append(';');
            }
            t.append(times(String.valueOf((char) ('a' + i)), powers)).append("=;");
        }
        return completed(t.toString());
    }
}
