import java.lang.reflect.InvocationTargetException;
import java.lang.reflect.Method;
import java.lang.reflect.Modifier;
import java.util.ArrayList;
import java.util.List;

/** Refusals: in which order, that they change nothing, and that no numbers whatever make a call throw. */
public final class RefusalsTest extends Checks {
    private static final int[] WILD = {LEAST, -1000, -2, -1, 0, 1, 2, 7, 8, 9, 80, 81, 199, 200, 300, 500, 501, 1000, MOST};
    // With ba>ab just one STEP too many.
    private static final String TOO_LONG = times("b", 25) + times("a", 39) + "ba";

    public static void main(String[] args) throws IllegalAccessException {
        firstThatFits();
        nothingChangesInANewSystem();
        nothingChangesWhilePairsWait();
        nothingChangesWhenComplete();
        nothingChangesWhenStuck();
        wildNumbersNeverThrow();
        end();
    }

    private static void firstThatFits() {
        sentence("refusals", "Refusals are answers, the first of these that fits, unless the call says otherwise: "
            + "BAD (a number is not as told; there is no such thing), STATE, FULL.");
        Counted x = system("ab;ba=ab;=;");
        x.complete(1);
        wordText(x, 0, TOO_LONG);
        due("number: BAD ahead of STATE", x.number(8), BAD);
        due("number: STATE ahead of FULL", x.number(0), STATE);
        due("many: BAD ahead of STATE", x.many(81), BAD);
        due("reduce: FULL, whether COMPLETE or not", x.reduce(0), FULL);
        due("same: BAD ahead of FULL", x.same(0, 8), BAD);
        due("join: BAD ahead of FULL", x.join(8, 0, 0), BAD);
        due("element: BAD ahead of STATE", x.element(0, 8), BAD);
        due("product: STATE ahead of BAD", x.product(-1, -1), STATE);
        due("power: STATE ahead of BAD", x.power(-1, -1), STATE);
        due("inverse: STATE ahead of BAD", x.inverse(-1), STATE);
        x = system("abcdefgh;");
        due("many: BAD ahead of FULL", x.many(81), BAD);
        put(x, times(" ", 600));
        due("feed: BAD ahead of FULL", x.feed(0, 0), BAD);
    }

    /** All that can be told of a system without changing it; overlap() and step() of the latest. */
    private static String told(Counted x) {
        StringBuilder t = new StringBuilder();
        for (int i = 0; i < 8; i++) t.append(x.count(i)).append(' ').append(slotText(x, i)).append(' ');
        for (int r = 0; r < 4; r++) t.append(x.rule(r, 0)).append(ruleText(x, r)).append(' ');
        for (int k = 0; k < 3; k++) t.append(pairText(x, k)).append(' ');
        for (int i = 0; i < 3; i++) t.append(x.overlap(i)).append(' ').append(x.step(i, 0)).append(x.step(i, 1)).append(' ');
        return t.append(x.fault()).append(' ').append(x.size()).append(' ').append(x.many(3)).toString();
    }

    private static void refuse(String call, long answer) {
        if (answer != BAD && answer != STATE && answer != FULL) fail(call + " answered " + answer + ", due is a refusal");
    }

    /** Behind refusals all is as it was, the tape too. */
    private static void dueUnchanged(Counted x) {
        sentence("refusals", "What is refused changes nothing but as told.");
        put(x, "ab");
        String before = told(x);
        refuseTexts(x);
        refuseSystems(x);
        refuseWords(x);
        refuseElements(x);
        dueText("what is told", told(x), before);
        due("the tape has", x.feed('a', 1), 3);
    }

    private static void refuseTexts(Counted x) {
        for (int n : new int[] {0, 9, -1}) refuse("feed(.., " + n + ")", x.feed(0x6161616161616161L, n));
        for (int slot : new int[] {-1, 8}) refuse("word(" + slot + ")", x.word(slot));
    }

    private static void refuseSystems(Counted x) {
        for (int fuel : new int[] {-1, 0, 501}) refuse("complete(" + fuel + ")", x.complete(fuel));
        for (int wild : new int[] {-1, 1000}) {
            refuse("count(" + wild + ")", x.count(wild));
            refuse("rule(" + wild + ", 0)", x.rule(wild, 0));
            refuse("rule(0, " + wild + ")", x.rule(0, wild));
            refuse("ruleLetter(" + wild + ", 0, 0)", x.ruleLetter(wild, 0, 0));
            refuse("ruleLetter(0, " + wild + ", 0)", x.ruleLetter(0, wild, 0));
            refuse("waiting(" + wild + ", 0, 0)", x.waiting(wild, 0, 0));
            refuse("waiting(0, " + wild + ", 0)", x.waiting(0, wild, 0));
            refuse("overlap(" + wild + ")", x.overlap(wild));
        }
    }

    private static void refuseWords(Counted x) {
        for (int slot : new int[] {-1, 8}) {
            refuse("length(" + slot + ")", x.length(slot));
            refuse("letter(" + slot + ", 0)", x.letter(slot, 0));
            refuse("join(" + slot + ", 2, 3)", x.join(slot, 2, 3));
            refuse("join(2, " + slot + ", 3)", x.join(2, slot, 3));
            refuse("join(2, 3, " + slot + ")", x.join(2, 3, slot));
            refuse("reduce(" + slot + ")", x.reduce(slot));
            refuse("step(0, " + slot + ")", x.step(0, slot));
            refuse("same(" + slot + ", 2)", x.same(slot, 2));
            refuse("compare(2, " + slot + ")", x.compare(2, slot));
        }
    }

    private static void refuseElements(Counted x) {
        for (int wild : new int[] {-1, LEAST}) {
            refuse("many(" + wild + ")", x.many(wild));
            refuse("element(" + wild + ", 2)", x.element(wild, 2));
            refuse("element(0, " + wild + ")", x.element(0, wild));
            refuse("number(" + wild + ")", x.number(wild));
            refuse("product(0, " + wild + ")", x.product(0, wild));
            refuse("product(" + wild + ", 0)", x.product(wild, 0));
            refuse("power(" + wild + ", 0)", x.power(wild, 0));
            refuse("power(0, " + wild + ")", x.power(0, wild));
            refuse("inverse(" + wild + ")", x.inverse(wild));
        }
    }

    private static void fillSlots(Counted x) {
        wordText(x, 0, "bba");
        wordText(x, 2, "ba");
        wordText(x, 7, "abab");
    }

    private static void nothingChangesInANewSystem() {
        dueUnchanged(new Counted());
    }

    private static void nothingChangesWhilePairsWait() {
        Counted x = system("ab;bb=aa;ba=ab;");
        x.complete(1);
        due("open()", x.open(), 1);
        fillSlots(x);
        due("reduce(0)", x.reduce(0), 1);
        refuse("size()", x.size());
        dueUnchanged(x);
        refuse("element(0, 2)", x.element(0, 2));
        dueWord(x, 2, "ba");
    }

    private static Counted sortingSystem() {
        Counted x = completed("ab;ba=ab;");
        fillSlots(x);
        due("reduce(0)", x.reduce(0), 2);
        return x;
    }

    private static void nothingChangesWhenComplete() {
        dueUnchanged(sortingSystem());
        Counted x = sortingSystem();
        wordText(x, 1, TOO_LONG);
        String before = told(x);
        refuse("reduce(1)", x.reduce(1));
        refuse("same(1, 0)", x.same(1, 0));
        refuse("number(1)", x.number(1));
        refuse("join(2, 1, 1)", x.join(2, 1, 1));
        refuse("element of 81 letters", x.element(81 * 82 / 2, 2));
        refuse("product of 81 letters", x.product(1, 80 * 81 / 2));
        refuse("power, its letters are too many", x.power(1, 0));
        refuse("inverse, its letters are too many", x.inverse(80 * 81 / 2));
        dueText("what is told", told(x), before);
    }

    private static void nothingChangesWhenStuck() {
        Counted x = system("abcdefg;gg=b;" + COUNTER + "ef=af;" + times("c", 10) + "ef=g;");
        due("complete(6)", x.complete(6), 2);
        due("open()", x.open(), 1);
        fillSlots(x);
        due("reduce(0)", x.reduce(0) > 0 ? 1 : 0, 1);
        dueUnchanged(x);
        String before = told(x);
        refuse("element(0, 2)", x.element(0, 2));
        due("complete(500)", x.complete(500), 2);
        dueText("what is told", told(x), before);
    }

    // ---- wild numbers

    private static MonoidRules begun(String text, int fuel) {
        MonoidRules x = new MonoidRules();
        for (int i = 0; i < text.length(); i++) x.feed(text.charAt(i), 1);
        if (!text.isEmpty()) x.read();
        if (fuel > 0) x.complete(fuel);
        return x;
    }

    private static void wildNumbersNeverThrow() throws IllegalAccessException {
        promise("wild numbers");
        String[] texts = {"", "ab;ba=ab;aa=;bb=;", "ab;ba=ab;", "ab;ba=bb;", "abcdefgh;", "ab;aa=;bbb=;abab=;"};
        int[] fuels = {0, 1, 500, 500, 0, 500};
        for (Method method : MonoidRules.class.getDeclaredMethods()) {
            if (!Modifier.isPublic(method.getModifiers())) continue;
            List<Object[]> calls = wildCalls(method);
            for (int i = 0; i < texts.length; i++) {
                MonoidRules x = null;
                for (int k = 0; k < calls.size(); k++) {
                    // No more calls than the document allows, those that feed the text among them.
                    if (k % 450 == 0) x = begun(texts[i], fuels[i]);
                    call(method, x, calls.get(k));
                }
            }
        }
    }

    private static List<Object[]> wildCalls(Method method) {
        List<Object[]> calls = new ArrayList<>();
        calls.add(new Object[method.getParameterCount()]);
        for (int p = 0; p < method.getParameterCount(); p++) {
            List<Object[]> longer = new ArrayList<>();
            for (Object[] begun : calls) {
                for (int wild : WILD) {
                    Object[] call = begun.clone();
                    call[p] = method.getParameterTypes()[p] == long.class ? (Object) (long) wild : (Object) wild;
                    longer.add(call);
                }
            }
            calls = longer;
        }
        return calls;
    }

    private static void call(Method method, MonoidRules x, Object[] numbers) throws IllegalAccessException {
        try {
            long answer = ((Number) method.invoke(x, numbers)).longValue();
            if (answer < ENDLESS && answer > -1000 || answer < -1600) fail(method.getName() + " answered " + answer);
        } catch (InvocationTargetException e) {
            fail(method.getName() + " threw " + e.getCause());
        }
    }
}
