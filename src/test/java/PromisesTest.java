/** Ordinary runs, promise by promise; the edges that the document names have tests of their own (*EdgesTest, RefusalsTest). */
public final class PromisesTest extends Checks {
    private static final String SYMMETRIC_OF_3 = "ab;aa=;bbb=;abab=;";
    private static final String SYMMETRIC_OF_5 = "abcd;aa=;bb=;cc=;dd=;aba=bab;bcb=cbc;cdc=dcd;ac=ca;ad=da;bd=db;";

    public static void main(String[] args) {
        texts();
        complete();
        count();
        rule();
        waiting();
        open();
        words();
        step();
        many();
        size();
        elements();
        product();
        powerAndInverse();
        commutes();
        end();
    }

    private static void texts() {
        promise("promises 2 to 5");
        Counted x = new Counted();
        due("feed(.., 8)", x.feed(0x61623b61613d3b62L, 8), 8);
        due("feed(.., 5)", x.feed(0x623d61623bL, 5), 13);
        due("read()", x.read(), 2);
        due("count(0)", x.count(0), 2);
        duePairs(x, "aa=", "bb=ab");
        due("feed(.., 3)", x.feed(0x616261, 3), 3);
        due("word(2)", x.word(2), 3);
        dueWord(x, 2, "aba");
        due("a faulty text", readText(x, "ab;ac=;"), -1004);
        due("fault()", x.fault(), 2);
        due("with blanks", readText(x, " b\n a ; b a\n= a b ; = ;\n a b=; \n"), 3);
        duePairs(x, "ab=ba", "=", "ba=");
    }

    private static void complete() {
        promise("promise 6");
        Counted x = system("ab;aa=;bab=b;=b;");
        due("complete(1)", x.complete(1), 0);
        dueRule(x, 0, "aa>");
        duePairs(x, "bab=b", "=b", "a=a");
        due("complete(1)", x.complete(1), 0);
        dueRule(x, 1, "bab>b");
        duePairs(x, "=b", "a=a", "bab=bab");
        due("complete(1)", x.complete(1), 0);
        dueRule(x, 2, "b>");
        dueLive(x, 1, 0, 1);
        duePairs(x, "a=a", "bab=bab", "bab=b");
        due("complete(3)", x.complete(3), 0);
        dueRule(x, 3, "a>");
        duePairs(x, "aa=");
        due("complete(500)", x.complete(500), 1);
        dueCounts(x, 2, 4, 2, 0, 7, 1, 0, 9);
    }

    private static void count() {
        promise("promise 7");
        Counted x = system(SYMMETRIC_OF_3);
        x.complete(3);
        dueCounts(x, 2, 3, 3, 6, 3, 0, 0, 0);
        x.complete(500);
        dueCounts(x, 2, 7, 6, 0, 33, 1, 0, 41);
    }

    private static void rule() {
        promise("promises 8, 9");
        // (a) drops RULE 0 as RULE 1 comes, (b) makes the RIGHT of RULE 1 new as RULE 2 comes.
        Counted x = system("abc;cabc=a;ca=ab;ab=;");
        x.complete(1);
        due("rule(0, 0)", x.rule(0, 0), 1);
        due("rule(0, 1)", x.rule(0, 1), 4);
        due("rule(0, 2)", x.rule(0, 2), 1);
        x.complete(1);
        dueLive(x, 0, 1);
        dueRule(x, 1, "ca>ab");
        duePairs(x, "ab=", "aabc=caba", "cabc=a");
        x.complete(1);
        dueRule(x, 1, "ca>");
        dueRule(x, 2, "ab>");
        due("rule(1, 2)", x.rule(1, 2), 0);
        duePairs(x, "aabc=caba", "cabc=a", "b=c");
        due("count(7)", x.count(7), 1);
    }

    private static void waiting() {
        promise("promise 10");
        Counted x = system("abc;aba=c;bab=;");
        due("waiting(0, 0, 1)", x.waiting(0, 0, 1), 1);
        due("waiting(0, 1, 0)", x.waiting(0, 1, 0), 2);
        x.complete(1);
        // aba with itself, one letter shared: c.ba and ab.c
        duePairs(x, "bab=", "cba=abc");
        x.complete(1);
        // bab with aba, two letters shared; aba with bab, two; bab with itself, one
        duePairs(x, "cba=abc", "a=bc", "cb=a", "ab=ba");
    }

    private static void open() {
        promise("promises 11, 12");
        Counted x = system(SYMMETRIC_OF_3);
        x.complete(3);
        due("open()", x.open(), 1);
        dueOverlap(x, 0, 2, 1);
        x.complete(500);
        due("open()", x.open(), 0);
    }

    private static void words() {
        promise("promises 13 to 16, 18, 19");
        Counted x = completed("ab;ba=ab;");
        wordText(x, 0, "bba");
        wordText(x, 1, "ab");
        due("join(2, 0, 1)", x.join(2, 0, 1), 5);
        dueWord(x, 2, "bbaab");
        due("compare(0, 1)", x.compare(0, 1), 1);
        due("reduce(2)", x.reduce(2), 4);
        dueWord(x, 2, "aabbb");
        due("join(3, 1, 0)", x.join(3, 1, 0), 5);
        due("same(2, 3)", x.same(2, 3), 1);
        due("same(2, 0)", x.same(2, 0), 0);
    }

    private static void step() {
        promise("promise 17");
        Counted x = completed("abc;ba=ab;cc=;");
        wordText(x, 0, "bbaccba");
        due("reduce(0)", x.reduce(0), 6);
        int[] rules = {0, 0, 1, 0, 0, 0};
        int[] places = {1, 0, 3, 3, 2, 1};
        for (int i = 0; i < 6; i++) {
            due("step(" + i + ", 0)", x.step(i, 0), rules[i]);
            due("step(" + i + ", 1)", x.step(i, 1), places[i]);
        }
    }

    private static void many() {
        promise("promise 20");
        Counted x = completed("ab;bb=;");
        long[] fibonacci = {1, 2, 3, 5, 8, 13};
        for (int n = 0; n < 6; n++) due("many(" + n + ")", x.many(n), fibonacci[n]);
        due("many(71)", x.many(71), 806515533049393L);
        due("many(16) of 8 LETTERS", system("abcdefgh;").many(16), 1L << 48);
    }

    private static void size() {
        promise("promise 21");
        due("size()", completed(SYMMETRIC_OF_3).size(), 6);
        due("size()", completed(SYMMETRIC_OF_5).size(), 120);
        due("size()", completed("ab;ba=ab;").size(), ENDLESS);
    }

    private static void elements() {
        promise("promises 22, 23");
        Counted x = completed(SYMMETRIC_OF_5);
        for (int i = 0; i < 120; i++) {
            due("element(" + i + ", 0) is there", x.element(i, 0) >= 0 ? 1 : 0, 1);
            due("number of element " + i, x.number(0), i);
        }
        due("element(119, 0)", x.element(119, 0), 10);
    }

    private static void product() {
        promise("promise 24");
        Counted x = completed(SYMMETRIC_OF_3);
        int[][] table = {
            {0, 1, 2, 3, 4, 5}, {1, 0, 3, 2, 5, 4}, {2, 4, 5, 1, 3, 0},
            {3, 5, 4, 0, 2, 1}, {4, 2, 1, 5, 0, 3}, {5, 3, 0, 4, 1, 2},
        };
        for (int i = 0; i < 6; i++) {
            for (int j = 0; j < 6; j++) due("product(" + i + ", " + j + ")", x.product(i, j), table[i][j]);
        }
    }

    private static void powerAndInverse() {
        promise("promises 25, 26");
        Counted x = completed(SYMMETRIC_OF_3);
        int[] orders = {1, 2, 3, 2, 2, 3};
        int[] inverses = {0, 1, 5, 3, 4, 2};
        for (int i = 0; i < 6; i++) {
            due("power(" + i + ", 0)", x.power(i, 0), 0);
            due("power(" + i + ", 1)", x.power(i, 1), orders[i]);
            due("inverse(" + i + ")", x.inverse(i), inverses[i]);
        }
    }

    private static void commutes() {
        promise("promise 27");
        due("commutes()", completed("abc;ba=ab;ca=ac;cb=bc;").commutes(), 1);
        due("commutes()", completed("abc;ba=ab;ca=ac;").commutes(), 0);
        due("commutes()", completed(SYMMETRIC_OF_3).commutes(), 0);
    }
}
