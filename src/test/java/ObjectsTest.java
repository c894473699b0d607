import java.lang.management.ManagementFactory;

/** What holds of an object as a whole: its 512 calls, that it is alone with its state, and how much room its runs take. */
public final class ObjectsTest extends Checks {
    private static final int MOST_CALLS = 512;
    // All calls of one run have room for so many fields and elements; a field or an element has a byte at least.
    private static final long MOST_ROOM = 7300000;

    public static void main(String[] args) {
        allCallsOfOneSystem();
        allCallsOfManySystems();
        objectsAreAlone();
        sameCallsSameAnswers();
        room();
        end();
    }

    private static void allCallsOfOneSystem() {
        sentence("What it is", "An object is used for at most 512 calls after it has been made");
        Counted x = completed("ab;aa=;bbb=;abab=;");
        int[] byLast = {5, 4, 0, 1, 3, 2};
        for (int i = 0; x.calls() < MOST_CALLS - 1; i++) due("product(" + i % 6 + ", 5)", x.product(i % 6, 5), byLast[i % 6]);
        due("size()", x.size(), 6);
        due("calls", x.calls(), MOST_CALLS);
    }

    private static void allCallsOfManySystems() {
        sentence("What it is", "An object is used for at most 512 calls after it has been made");
        Counted x = new Counted();
        // Each of these is 8 calls: 64 systems, one behind the other.
        for (int i = 0; x.calls() < MOST_CALLS; i++) {
            int order = 1 + i % 6;
            due("read()", readText(x, "a;" + times("a", order) + "=;"), 1);
            due("complete(500)", x.complete(500), 1);
            due("size()", x.size(), order);
            due("count(1)", x.count(1), 1);
            while (x.calls() % 8 != 0) due("element(0, 0)", x.element(0, 0), 0);
        }
        due("calls", x.calls(), MOST_CALLS);
    }

    private static void objectsAreAlone() {
        promise("several objects");
        Counted x = new Counted();
        Counted y = new Counted();
        put(x, "ab;ba=");
        put(y, "abc;aa=;");
        put(x, "ab;");
        due("read() of the one", x.read(), 1);
        put(y, "bb=;cc=c;");
        due("read() of the other", y.read(), 3);
        due("complete(500) of the one", x.complete(500), 1);
        dueCounts(y, 3, 0, 0, 3, 0, 0, 0, 0);
        due("complete(2) of the other", y.complete(2), 0);
        dueCounts(x, 2, 1, 1, 0, 1, 1, 0, 0);
        wordText(x, 0, "bba");
        due("length(0) of the other", y.length(0), 0);
        due("reduce(0)", x.reduce(0), 2);
        due("step(0, 0) of the other", y.step(0, 0), NONE);
        due("a FAULT of the other", readText(y, "A"), -1000);
        due("fault() of the one", x.fault(), 0);
        due("size() of the one", x.size(), ENDLESS);
        due("size() of the other", y.size(), STATE);
        dueCounts(new Counted(), 0, 0, 0, 0, 0, 1, 0, 0);
        dueWord(x, 0, "abb");
    }

    private static void sameCallsSameAnswers() {
        promise("the same calls on a new object and on one that was used");
        Counted used = completed("abcd;ddbbdab=;bbdbbbd=d;dcda=;");
        wordText(used, 0, "ddcdab");
        used.reduce(0);
        used.open();
        used.size();
        used.many(80);
        dueText("what is told", toldOf(used), toldOf(new Counted()));
    }

    private static String toldOf(Counted x) {
        StringBuilder t = new StringBuilder();
        t.append(readText(x, "ab;aa=;bbb=;abab=;")).append(' ').append(x.complete(3)).append(' ').append(x.open()).append(' ');
        for (int k = 0; k < 6; k++) t.append(pairText(x, k)).append(' ');
        t.append(x.complete(500)).append(' ').append(x.open()).append(' ').append(x.size()).append(' ').append(x.many(2)).append(' ');
        for (int i = 0; i < 8; i++) t.append(x.count(i)).append(' ').append(slotText(x, i)).append(' ');
        for (int r = 0; r < 8; r++) t.append(ruleText(x, r)).append(x.rule(r, 0)).append(' ');
        t.append(wordText(x, 1, "ababbbba")).append(' ').append(x.reduce(1)).append(' ').append(slotText(x, 1)).append(' ');
        for (int i = 0; i < 6; i++) t.append(x.step(i, 0)).append(x.step(i, 1)).append(' ').append(x.inverse(i)).append(' ');
        return t.toString();
    }

    private static void room() {
        promise("room");
        String[] texts = {
            "ab;ba=bbaab;", "ab;baabb=;", "ab;ba=bb;", "ab;baab=;", "abcd;ddbbdab=;bbdbbbd=d;dcda=;", "abcdefgh;",
            "abcdef;" + COUNTER + "ef=af;fa=f;fd=f;ff=f;", "ab;" + times("a", 24) + "=b;" + times("b", 24) + "=;ba=ab;",
        };
        for (String text : texts) {
            long before = bytesMade();
            dearRun(text);
            long made = bytesMade() - before;
            if (made > MOST_ROOM) fail("a run with " + text + " made " + made + " bytes");
        }
    }

    private static long bytesMade() {
        com.sun.management.ThreadMXBean threads = (com.sun.management.ThreadMXBean) ManagementFactory.getThreadMXBean();
        return threads.getThreadAllocatedBytes(Thread.currentThread().getId());
    }

    /** 512 calls, the dearest ones over and over. */
    private static void dearRun(String text) {
        MonoidRules x = new MonoidRules();
        int calls = text.length() + 9;
        for (int i = 0; i < text.length(); i++) x.feed(text.charAt(i), 1);
        x.read();
        for (int i = 0; i < 8; i++) x.complete(500);
        for (int i = 0; calls < MOST_CALLS; i++) {
            ask(x, i % 8, i);
            calls++;
        }
    }

    private static void ask(MonoidRules x, int which, int i) {
        switch (which) {
            case 0: x.open(); break;
            case 1: x.size(); break;
            case 2: x.many(80); break;
            case 3: x.element(7919 * i, 0); break;
            case 4: x.number(0); break;
            case 5: x.power(i, 1); break;
            case 6: x.inverse(i); break;
            default: x.same(0, 1);
        }
    }
}
