/** Each promise of the document by itself: ordinary inputs, the edges that it names, wrong inputs. */
public final class PromisesTest extends Checks {
    public static void main(String[] args) {
        newObject();
        feed();
        readPresentations();
        readFaults();
        readKeepsOrBegins();
        word();
        fault();
        complete();
        completeStuck();
        count();
        rule();
        ruleLetter();
        waiting();
        open();
        overlap();
        lengthAndLetter();
        join();
        reduce();
        step();
        same();
        compare();
        many();
        size();
        element();
        number();
        product();
        power();
        inverse();
        commutes();
        end();
    }

    private static void newObject() {
        promise("promise 1");
        Counted x = new Counted();
        int[] counts = {0, 0, 0, 0, 0, 1, 0, 0};
        for (int i = 0; i < 8; i++) due("count(" + i + ")", x.count(i), counts[i]);
        due("size()", x.size(), 1);
        due("many(0)", x.many(0), 1);
        due("many(1)", x.many(1), 0);
        due("fault()", x.fault(), 0);
        due("overlap(0)", x.overlap(0), NONE);
        due("step(0, 0)", x.step(0, 0), NONE);
        due("complete(1)", x.complete(1), 1);
        due("element(0, 3)", x.element(0, 3), 0);
        due("element(1, 3)", x.element(1, 3), BAD);
        for (int i = 0; i < 8; i++) due("length(" + i + ")", x.length(i), 0);
        due("feed(97, 1)", x.feed('a', 1), 1);
        due("word(0)", x.word(0), -1000);
        due("fault()", x.fault(), 2);
    }

    private static void feed() {
        promise("promise 2");
        Counted x = new Counted();
        due("feed(1, 0)", x.feed(1, 0), BAD);
        due("feed(1, 9)", x.feed(1, 9), BAD);
        due("feed(1, -1)", x.feed(1, -1), BAD);
        due("feed(.., 1)", x.feed(0x7878787878787861L, 1), 1);
        due("feed(.., 2)", x.feed(0x623bL, 2), 3);
        due("read()", x.read(), 0);
        due("count(0)", x.count(0), 2);
        due("feed(.., 8)", x.feed(0x6261626162616262L, 8), 8);
        due("word(0)", x.word(0), 8);
        dueWord(x, 0, "babababb");
        due("feed(-1, 8)", x.feed(-1L, 8), 8);
        due("word(0)", x.word(0), -1000);
        due("put", put(x, times(" ", 592)), 592);
        due("feed(.., 7)", x.feed(0x20202020202020L, 7), 599);
        due("feed(.., 2)", x.feed(0x6161, 2), FULL);
        due("feed(.., 9)", x.feed(0x6161, 9), BAD);
        due("feed(.., 1)", x.feed('b', 1), 600);
        due("feed(.., 1)", x.feed('b', 1), FULL);
        due("word(1)", x.word(1), 1);
        dueWord(x, 1, "b");
        due("feed(.., 1)", x.feed('b', 1), 1);
    }

    private static void readPresentations() {
        promise("promise 3");
        Counted x = new Counted();
        due("a;", readText(x, "a;"), 0);
        due("count(0)", x.count(0), 1);
        due("count(5)", x.count(5), 1);
        due("zyxwvuts;", readText(x, "zyxwvuts;"), 0);
        due("count(0)", x.count(0), 8);
        due("with blanks", readText(x, " b\n a ; b a\n= a b ; = ;\n a b=; \n"), 3);
        due("count(0)", x.count(0), 2);
        duePairs(x, "ab=ba", "=", "ba=");
        due("long words", readText(x, "ab;" + times("a", 24) + "=" + times("b", 24) + ";"), 1);
        due("40 equations", readText(x, "ab;" + times("a=b;", 40)), 40);
        due("count(3)", x.count(3), 40);
        due("40 equations and half", readText(x, "ab;" + times("a=b;", 40) + "a"), -1164);
        due("fault()", x.fault(), 1);
    }

    private static void dueFault(String text, int number, int place) {
        Counted x = new Counted();
        due("read of \"" + text + "\"", readText(x, text), -1000 - place);
        due("fault() of \"" + text + "\"", x.fault(), number);
    }

    private static void readFaults() {
        promise("promise 3, FAULTS");
        dueFault("", 1, 0);
        dueFault("   ", 1, 3);
        dueFault(";", 1, 0);
        dueFault(" ;", 1, 1);
        dueFault("a", 1, 1);
        dueFault("a \n", 1, 3);
        dueFault("aA;", 1, 1);
        dueFault("a=;", 1, 1);
        dueFault("a`;", 1, 1);
        dueFault("a{;", 1, 1);
        dueFault("a\t;", 1, 1);
        dueFault("a\u00e1;", 1, 1);
        dueFault("ab a;", 2, 3);
        dueFault("abcdefghi;", 3, 8);
        dueFault("abcdefgh a;", 2, 9);
        dueFault("abcdefgh1;", 1, 8);
        dueFault("a;;", 1, 2);
        dueFault("a;a;", 1, 3);
        dueFault("a;a", 1, 3);
        dueFault("a;a ", 1, 4);
        dueFault("a;a=", 1, 4);
        dueFault("a;a=a", 1, 5);
        dueFault("a;a==a;", 1, 4);
        dueFault("a;a=a=", 1, 5);
        dueFault("a;b=a;", 2, 2);
        dueFault("a;a= b;", 2, 5);
        dueFault("a;B=a;", 1, 2);
        dueFault("a;" + times("a", 25) + "=;", 3, 26);
        dueFault("a;" + times("a", 24) + "b=;", 2, 26);
        dueFault("a;" + times("a", 24) + "B=;", 1, 26);
        dueFault("a;=" + times("a", 24) + "\n a;", 3, 29);
        dueFault("a;" + times("=;", 40) + "a=;", 3, 83);
        dueFault("a;" + times("=;", 40) + "=;", 3, 82);
        dueFault("a;" + times("=;", 40) + "b=;", 2, 82);
        dueFault("a;" + times("=;", 40) + ";", 1, 82);
        dueFault("a;" + times("=;", 40) + times("a", 25), 3, 106);
    }

    private static void readKeepsOrBegins() {
        promise("promise 3, systems");
        Counted x = completed("ab;aa=;bb=;abab=;");
        wordText(x, 2, "abab");
        due("reduce(2)", x.reduce(2), 3);
        wordText(x, 1, "bbb");
        wordText(x, 0, "b");
        due("many(2)", x.many(2), 1);
        int[] counts = new int[8];
        for (int i = 0; i < 8; i++) counts[i] = x.count(i);
        due("a faulty text", readText(x, "c;c=d;"), -1004);
        for (int i = 0; i < 8; i++) due("count(" + i + ")", x.count(i), counts[i]);
        due("step(0, 0)", x.step(0, 0), 5);
        due("length(1)", x.length(1), 3);
        due("size()", x.size(), 4);
        due("the tape is empty", x.feed('a', 1), 1);
        due("word(3)", x.word(3), 1);
        due("a new system", readText(x, "c;ccc=;"), 1);
        for (int i = 0; i < 8; i++) due("length(" + i + ")", x.length(i), 0);
        int[] fresh = {1, 0, 0, 1, 0, 0, 0, 0};
        for (int i = 0; i < 8; i++) due("count(" + i + ")", x.count(i), fresh[i]);
        due("step(0, 0)", x.step(0, 0), NONE);
        due("rule(0, 0)", x.rule(0, 0), BAD);
        due("size()", x.size(), STATE);
        due("old letters", wordText(x, 0, "a"), -1000);
        due("new letters", wordText(x, 0, "cc"), 2);
        due("complete(500)", x.complete(500), 1);
        due("size()", x.size(), 3);
        due("many(0)", x.many(0), 1);
        due("many(1)", x.many(1), 1);
        due("fault()", x.fault(), 2);
    }

    private static void word() {
        promise("promise 4");
        Counted x = system("ba;");
        due("word", wordText(x, 0, " a\nb b "), 3);
        dueWord(x, 0, "baa");
        put(x, "ab");
        due("word(8)", x.word(8), BAD);
        due("word(-1)", x.word(-1), BAD);
        due("the tape stays", x.feed('a', 1), 3);
        due("word(7)", x.word(7), 3);
        dueWord(x, 7, "bab");
        due("80 letters", wordText(x, 1, times("a", 80)), 80);
        due("81 letters", wordText(x, 1, times("a", 81)), -1080);
        due("fault()", x.fault(), 3);
        due("81 letters, the last strange", wordText(x, 1, times("a", 80) + "c"), -1080);
        due("fault()", x.fault(), 2);
        due("a strange letter", wordText(x, 7, "a c"), -1002);
        due("fault()", x.fault(), 2);
        due("a strange byte", wordText(x, 7, "a;"), -1001);
        due("fault()", x.fault(), 1);
        dueWord(x, 7, "bab");
        due("length(1)", x.length(1), 80);
        due("the tape is empty", x.feed(' ', 1), 1);
        due("an empty word", x.word(7), 0);
        due("length(7)", x.length(7), 0);
    }

    private static void fault() {
        promise("promise 5");
        Counted x = new Counted();
        due("fault()", x.fault(), 0);
        readText(x, "abcdefghi;");
        due("fault()", x.fault(), 3);
        readText(x, "aa;");
        due("fault()", x.fault(), 2);
        readText(x, "a;");
        due("fault() after a good text", x.fault(), 2);
        wordText(x, 0, "=");
        due("fault()", x.fault(), 1);
        wordText(x, 8, "b");
        due("fault() after BAD", x.fault(), 1);
    }

    private static void complete() {
        promise("promise 6");
        Counted x = system("ab;aa=;bab=b;=b;");
        due("complete(0)", x.complete(0), BAD);
        due("complete(-1)", x.complete(-1), BAD);
        due("complete(501)", x.complete(501), BAD);
        due("count(4)", x.count(4), 0);
        due("complete(1)", x.complete(1), 0);
        dueRule(x, 0, "aa>");
        duePairs(x, "bab=b", "=b", "a=a");
        due("complete(1)", x.complete(1), 0);
        dueRule(x, 1, "bab>b");
        duePairs(x, "=b", "a=a", "bab=bab");
        due("complete(1)", x.complete(1), 0);
        dueRule(x, 2, "b>");
        due("rule(1, 0)", x.rule(1, 0), 0);
        duePairs(x, "a=a", "bab=bab", "bab=b");
        due("complete(3)", x.complete(3), 0);
        dueRule(x, 3, "a>");
        duePairs(x, "aa=");
        due("complete(500)", x.complete(500), 1);
        due("count(4)", x.count(4), 7);
        due("count(7)", x.count(7), 9);
        due("complete(500) again", x.complete(500), 1);
        due("count(4)", x.count(4), 7);
        x = system("a;a=a;");
        due("complete(1), FORMS the same", x.complete(1), 1);
        due("count(1)", x.count(1), 0);
        x = system("a;" + "=a;a=;".repeat(20));
        due("complete(39)", x.complete(39), 0);
        due("complete(1)", x.complete(1), 1);
    }

    private static void completeStuck() {
        promise("promise 6, STUCK");
        Counted x = system("ab;baab=;");
        int answer = x.complete(500);
        due("a LEFT of 62", answer, 2);
        due("count(1)", x.count(1), 32);
        due("rule(31, 1)", x.rule(31, 1), 60);
        due("count(5)", x.count(5), 0);
        due("count(6)", x.count(6), 1);
        int treated = x.count(4);
        due("complete(500) again", x.complete(500), 2);
        due("count(4)", x.count(4), treated);
        due("complete(501)", x.complete(501), BAD);
        due("size()", x.size(), STATE);

        x = system("ab;bab=aab;");
        due("a LEFT of 61", x.complete(500), 2);
        due("count(1)", x.count(1), 29);
        due("count(4)", x.count(4), 226);
        due("rule(28, 1)", x.rule(28, 1), 59);
        due("another system", readText(x, "ab;bab=aab;"), 1);
        due("count(6)", x.count(6), 0);
        due("complete(1)", x.complete(1), 0);

        x = system("ab;baabb=;");
        due("200 RULES", x.complete(500) == 0 ? x.complete(500) : 7, 2);
        due("count(1)", x.count(1), 200);
        due("count(4)", x.count(4), 719);

        x = system("ab;ba=bb;");
        due("1000 PAIRS", x.complete(500), 2);
        due("count(3)", x.count(3), 1000);
        due("count(1)", x.count(1), 37);
        due("count(4)", x.count(4), 360);

        // TOO LONG in (b): the new RULE stays, the older RIGHT is as it was.
        x = system("abcdefg;" + times("g", 13) + "=" + times("c", 10) + "ef;" + COUNTER + "ef=af;");
        due("TOO LONG in (b)", x.complete(5), 2);
        due("count(1)", x.count(1), 5);
        due("count(2)", x.count(2), 5);
        due("count(4)", x.count(4), 5);
        due("count(7)", x.count(7), 0);
        dueRule(x, 0, times("g", 13) + ">" + times("c", 10) + "ef");
        dueRule(x, 4, "ef>af");

        // TOO LONG in the one word, in the other: the PAIR is gone, no STEP is counted.
        x = system("abcdefg;" + COUNTER + "ef=af;" + times("c", 10) + "ef=g;a=b;");
        due("TOO LONG in the one word", x.complete(500), 2);
        duePairs(x, "a=b");
        due("count(7)", x.count(7), 0);
        x = system("abcdefg;" + COUNTER + "ef=af;efg=" + times("c", 10) + "ef;a=b;");
        due("TOO LONG in the other word", x.complete(500), 2);
        duePairs(x, "a=b");
        due("count(4)", x.count(4), 5);
        due("count(7): of the one word", x.count(7), 1);
        due("count(1)", x.count(1), 4);

        // STUCK with nothing WAITING is not COMPLETE.
        x = system("abcdefg;" + COUNTER + "ef=af;" + times("c", 10) + "ef=g;");
        due("STUCK at the last PAIR", x.complete(500), 2);
        due("count(3)", x.count(3), 0);
        due("count(5)", x.count(5), 0);
        due("size()", x.size(), STATE);
        due("same(0, 1)", x.same(0, 1), 1);
    }

    private static void count() {
        promise("promise 7");
        Counted x = system("ab;aa=;bbb=;abab=;");
        due("count(-1)", x.count(-1), BAD);
        due("count(8)", x.count(8), BAD);
        x.complete(3);
        int[] early = {2, 3, 3, 6, 3, 0, 0, 0};
        for (int i = 0; i < 8; i++) due("count(" + i + ")", x.count(i), early[i]);
        x.complete(500);
        int[] late = {2, 7, 6, 0, 33, 1, 0, 41};
        for (int i = 0; i < 8; i++) due("count(" + i + ")", x.count(i), late[i]);
        wordText(x, 0, "aabbbab");
        x.reduce(0);
        x.open();
        x.number(0);
        due("count(7) after other REDUCINGS", x.count(7), 41);
    }

    private static void rule() {
        promise("promise 8");
        // (a) drops RULE 0 as RULE 1 comes, (b) makes the RIGHT of RULE 1 new as RULE 2 comes.
        Counted x = system("abc;cabc=a;ca=ab;ab=;");
        due("rule(0, 0)", x.rule(0, 0), BAD);
        x.complete(1);
        due("rule(0, 0)", x.rule(0, 0), 1);
        due("rule(0, 1)", x.rule(0, 1), 4);
        due("rule(0, 2)", x.rule(0, 2), 1);
        due("rule(1, 0)", x.rule(1, 0), BAD);
        due("rule(-1, 0)", x.rule(-1, 0), BAD);
        due("rule(0, 3)", x.rule(0, 3), BAD);
        due("rule(0, -1)", x.rule(0, -1), BAD);
        x.complete(1);
        due("rule(0, 0), dropped", x.rule(0, 0), 0);
        due("rule(0, 1), dropped", x.rule(0, 1), 4);
        due("rule(0, 2), dropped", x.rule(0, 2), 1);
        dueRule(x, 1, "ca>ab");
        duePairs(x, "ab=", "aabc=caba", "cabc=a");
        x.complete(1);
        dueRule(x, 1, "ca>");
        dueRule(x, 2, "ab>");
        due("rule(1, 2)", x.rule(1, 2), 0);
        duePairs(x, "aabc=caba", "cabc=a", "b=c");
        due("count(7)", x.count(7), 1);
        due("rule(200, 0)", x.rule(200, 0), BAD);
        due("rule(2147483647, 0)", x.rule(2147483647, 0), BAD);
    }

    private static void ruleLetter() {
        promise("promise 9");
        Counted x = completed("ab;ba=ab;");
        due("ruleLetter(0, 0, 0)", x.ruleLetter(0, 0, 0), 1);
        due("ruleLetter(0, 0, 1)", x.ruleLetter(0, 0, 1), 0);
        due("ruleLetter(0, 0, 2)", x.ruleLetter(0, 0, 2), NONE);
        due("ruleLetter(0, 0, -1)", x.ruleLetter(0, 0, -1), NONE);
        due("ruleLetter(0, 1, 0)", x.ruleLetter(0, 1, 0), 0);
        due("ruleLetter(0, 1, 1)", x.ruleLetter(0, 1, 1), 1);
        due("ruleLetter(0, 1, 99)", x.ruleLetter(0, 1, 99), NONE);
        due("ruleLetter(0, 2, 0)", x.ruleLetter(0, 2, 0), BAD);
        due("ruleLetter(0, -1, 0)", x.ruleLetter(0, -1, 0), BAD);
        due("ruleLetter(1, 0, 0)", x.ruleLetter(1, 0, 0), BAD);
        due("ruleLetter(-1, 0, 0)", x.ruleLetter(-1, 0, 0), BAD);
    }

    private static void waiting() {
        promise("promise 10");
        Counted x = system("abc;aba=c;bab=;");
        due("waiting(0, 0, 1)", x.waiting(0, 0, 1), 1);
        due("waiting(0, 1, 0)", x.waiting(0, 1, 0), 2);
        due("waiting(0, 1, 1)", x.waiting(0, 1, 1), NONE);
        due("waiting(0, 1, -1)", x.waiting(0, 1, -1), NONE);
        due("waiting(1, 1, 0)", x.waiting(1, 1, 0), NONE);
        due("waiting(2, 0, 0)", x.waiting(2, 0, 0), BAD);
        due("waiting(-1, 0, 0)", x.waiting(-1, 0, 0), BAD);
        due("waiting(0, 2, 0)", x.waiting(0, 2, 0), BAD);
        due("waiting(0, -1, 0)", x.waiting(0, -1, 0), BAD);
        x.complete(1);
        // aba with itself, one letter shared: c.ba and ab.c
        duePairs(x, "bab=", "cba=abc");
        x.complete(1);
        // bab with aba, two letters shared; aba with bab, two; bab with itself, one
        duePairs(x, "cba=abc", "a=bc", "cb=a", "ab=ba");
    }

    private static void open() {
        promise("promise 11");
        Counted x = system("ab;aa=;bbb=;abab=;");
        due("open() without RULES", x.open(), 0);
        x.complete(3);
        due("open()", x.open(), 1);
        due("overlap(0)", x.overlap(0), 0);
        due("overlap(1)", x.overlap(1), 2);
        due("overlap(2)", x.overlap(2), 1);
        due("open() again", x.open(), 1);
        x.complete(500);
        due("open()", x.open(), 0);
        due("overlap(1) stays", x.overlap(1), 2);
        readText(x, "ab;bb=aa;");
        x.complete(1);
        due("open()", x.open(), 1);
        readText(x, "ab;bb=aa;aaaa=;");
        due("open() of the new system", x.open(), 0);
        due("overlap(1) of the new system", x.overlap(1), NONE);
        x.complete(1);
        due("open(), a RULE with itself", x.open(), 1);
        due("overlap(0)", x.overlap(0), 0);
        due("overlap(1)", x.overlap(1), 0);
        due("overlap(2)", x.overlap(2), 1);
        x = system("ab;aba=a;");
        x.complete(1);
        due("open(), like FORMS", x.open(), 0);
        // One letter gives like FORMS (a, a), two letters unlike ones (abaa, aaba).
        x = system("ab;aabaa=a;");
        x.complete(1);
        due("open()", x.open(), 1);
        due("overlap(2)", x.overlap(2), 2);
        // The end of RULE 1 is the beginning of RULE 0, not the other way round.
        x = system("abc;ba=ab;cb=c;");
        x.complete(2);
        due("open()", x.open(), 1);
        due("overlap(0)", x.overlap(0), 1);
        due("overlap(1)", x.overlap(1), 0);
        due("overlap(2)", x.overlap(2), 1);
        // RULE 0 is dropped: its overlap with itself is none any more.
        x = system("ab;bab=a;b=;");
        x.complete(1);
        due("open()", x.open(), 1);
        x.complete(1);
        due("open()", x.open(), 0);
        due("overlap(0) of the latest one", x.overlap(0), 0);
        String late = "abcdefgh;" + COUNTER + "ef=af;" + times("g", 12) + "h=" + times("c", 10) + "e;hf=a;";
        x = system(late);
        due("complete(6)", x.complete(6), 0);
        due("open(), TOO LONG", x.open(), FULL);
        due("overlap(0)", x.overlap(0), NONE);
        due("complete(500)", x.complete(500), 2);
        due("open(), STUCK", x.open(), FULL);
        x = system("abcdefgh;gg=b;" + late.substring(9));
        due("complete(7)", x.complete(7), 0);
        due("open(), one ahead of TOO LONG", x.open(), 1);
        due("overlap(0)", x.overlap(0), 0);
        due("overlap(1)", x.overlap(1), 0);
    }

    private static void overlap() {
        promise("promise 12");
        Counted x = system("ab;bb=aa;");
        x.complete(1);
        due("overlap(0)", x.overlap(0), NONE);
        due("overlap(-1)", x.overlap(-1), BAD);
        due("overlap(3)", x.overlap(3), BAD);
        x.open();
        due("overlap(2)", x.overlap(2), 1);
        due("overlap(3)", x.overlap(3), BAD);
        readText(x, "ab;a=c;");
        due("overlap(2) after a FAULT", x.overlap(2), 1);
        readText(x, "ab;");
        due("overlap(2)", x.overlap(2), NONE);
    }

    private static void lengthAndLetter() {
        promise("promises 13, 14");
        Counted x = system("xyz;");
        wordText(x, 7, "zyx");
        due("length(7)", x.length(7), 3);
        due("length(0)", x.length(0), 0);
        due("length(8)", x.length(8), BAD);
        due("length(-1)", x.length(-1), BAD);
        due("letter(7, 0)", x.letter(7, 0), 2);
        due("letter(7, 2)", x.letter(7, 2), 0);
        due("letter(7, 3)", x.letter(7, 3), NONE);
        due("letter(7, -1)", x.letter(7, -1), NONE);
        due("letter(8, 0)", x.letter(8, 0), BAD);
        due("letter(-1, 0)", x.letter(-1, 0), BAD);
    }

    private static void join() {
        promise("promise 15");
        Counted x = system("ab;aa=;");
        wordText(x, 0, "aab");
        wordText(x, 1, "ba");
        due("join(2, 0, 1)", x.join(2, 0, 1), 5);
        dueWord(x, 2, "aabba");
        due("join(0, 0, 1)", x.join(0, 0, 1), 5);
        dueWord(x, 0, "aabba");
        due("join(1, 0, 1)", x.join(1, 0, 1), 7);
        dueWord(x, 1, "aabbaba");
        due("join(1, 1, 1)", x.join(1, 1, 1), 14);
        dueWord(x, 1, "aabbabaaabbaba");
        wordText(x, 3, times("a", 40));
        wordText(x, 4, times("b", 41));
        due("join(5, 3, 4)", x.join(5, 3, 4), FULL);
        due("length(5)", x.length(5), 0);
        due("join(5, 3, 3)", x.join(5, 3, 3), 80);
        due("join(8, 3, 4)", x.join(8, 3, 4), BAD);
        due("join(5, -1, 4)", x.join(5, -1, 4), BAD);
        due("join(5, 3, 8)", x.join(5, 3, 8), BAD);
    }

    private static void reduce() {
        promise("promise 16");
        Counted x = completed("ab;ba=ab;");
        wordText(x, 0, "bbaa");
        due("reduce(0)", x.reduce(0), 4);
        dueWord(x, 0, "aabb");
        due("reduce(0) again", x.reduce(0), 0);
        due("reduce(8)", x.reduce(8), BAD);
        due("reduce(-1)", x.reduce(-1), BAD);
        wordText(x, 1, times("b", 25) + times("a", 40));
        due("1000 STEPS", x.reduce(1), 1000);
        dueWord(x, 1, times("a", 40) + times("b", 25));
        String tooLong = times("b", 25) + times("a", 39) + "ba";
        wordText(x, 2, tooLong);
        due("1001 STEPS", x.reduce(2), FULL);
        dueWord(x, 2, tooLong);
        // The first place at which a LEFT ends: ab ahead of bc.
        x = system("abc;bc=a;ab=c;");
        x.complete(2);
        wordText(x, 0, "abc");
        due("reduce(0)", x.reduce(0), 1);
        dueWord(x, 0, "cc");
        // A RULE that is dropped is used no more.
        x = system("abc;cabc=a;ca=ab;");
        x.complete(2);
        wordText(x, 0, "cabc");
        due("reduce(0)", x.reduce(0), 1);
        dueWord(x, 0, "abbc");
    }

    private static void step() {
        promise("promise 17");
        Counted x = completed("abc;ba=ab;cc=;");
        due("step(0, 0)", x.step(0, 0), NONE);
        wordText(x, 0, "bbaccba");
        due("reduce(0)", x.reduce(0), 6);
        int[] rules = {0, 0, 1, 0, 0, 0};
        int[] places = {1, 0, 3, 3, 2, 1};
        for (int i = 0; i < 6; i++) {
            due("step(" + i + ", 0)", x.step(i, 0), rules[i]);
            due("step(" + i + ", 1)", x.step(i, 1), places[i]);
        }
        due("step(6, 0)", x.step(6, 0), NONE);
        due("step(-1, 1)", x.step(-1, 1), NONE);
        due("step(0, 2)", x.step(0, 2), BAD);
        due("step(0, -1)", x.step(0, -1), BAD);
        wordText(x, 1, times("b", 25) + times("a", 39) + "ba");
        due("a refused reduce", x.reduce(1), FULL);
        due("step(2, 0) stays", x.step(2, 0), 1);
        due("step(6, 0)", x.step(6, 0), NONE);
        x.reduce(9);
        x.same(0, 0);
        due("step(2, 1) stays", x.step(2, 1), 3);
        wordText(x, 2, times("b", 20) + times("a", 20));
        due("reduce(2)", x.reduce(2), 400);
        due("step(299, 0)", x.step(299, 0), 0);
        due("step(299, 1)", x.step(299, 1), 14);
        due("step(300, 0)", x.step(300, 0), NONE);
        due("reduce(2)", x.reduce(2), 0);
        due("step(0, 0)", x.step(0, 0), NONE);
    }

    private static void same() {
        promise("promise 18");
        Counted x = system("ab;ba=ab;");
        wordText(x, 0, "ab");
        wordText(x, 1, "ba");
        wordText(x, 2, "ab");
        due("same(0, 1), not COMPLETE", x.same(0, 1), NONE);
        due("same(0, 2), not COMPLETE", x.same(0, 2), 1);
        x.complete(1);
        due("same(0, 1)", x.same(0, 1), 1);
        due("same(0, 3)", x.same(0, 3), 0);
        dueWord(x, 1, "ba");
        due("same(0, 8)", x.same(0, 8), BAD);
        due("same(-1, 0)", x.same(-1, 0), BAD);
        wordText(x, 4, times("b", 40) + times("a", 40));
        due("same(4, 0)", x.same(4, 0), FULL);
        due("same(0, 4)", x.same(0, 4), FULL);
        due("same(4, 4)", x.same(4, 4), FULL);
    }

    private static void compare() {
        promise("promise 19");
        Counted x = system("ba;ba=ab;");
        wordText(x, 0, "bb");
        wordText(x, 1, "ab");
        wordText(x, 2, "aba");
        wordText(x, 3, "ab");
        due("compare(0, 1)", x.compare(0, 1), -1);
        due("compare(1, 0)", x.compare(1, 0), 1);
        due("compare(1, 3)", x.compare(1, 3), 0);
        due("compare(2, 1)", x.compare(2, 1), 1);
        due("compare(4, 0)", x.compare(4, 0), -1);
        due("compare(4, 5)", x.compare(4, 5), 0);
        due("compare(8, 0)", x.compare(8, 0), BAD);
        due("compare(0, -1)", x.compare(0, -1), BAD);
    }

    private static void many() {
        promise("promise 20");
        Counted x = system("ab;bb=;");
        due("many(1)", x.many(1), STATE);
        due("many(81)", x.many(81), BAD);
        due("many(-1)", x.many(-1), BAD);
        x.complete(500);
        long[] fibonacci = {1, 2, 3, 5, 8, 13};
        for (int n = 0; n < 6; n++) due("many(" + n + ")", x.many(n), fibonacci[n]);
        due("many(70)", x.many(70), 498454011879264L);
        due("many(71)", x.many(71), 806515533049393L);
        due("many(72)", x.many(72), FULL);
        due("many(80)", x.many(80), FULL);
        due("many(81)", x.many(81), BAD);
        x = system("abcdefgh;");
        due("many(16)", x.many(16), 1L << 48);
        due("many(17)", x.many(17), FULL);
        x = system("a;");
        due("many(80)", x.many(80), 1);
        x = completed("ab;b=a;");
        due("many(1)", x.many(1), 1);
        due("many(80)", x.many(80), 1);
        x = completed("ab;b=a;a=;");
        due("many(0)", x.many(0), 1);
        due("many(1)", x.many(1), 0);
    }

    private static void size() {
        promise("promise 21");
        Counted x = system("a;aa=;");
        due("size()", x.size(), STATE);
        x.complete(500);
        due("size()", x.size(), 2);
        due("size() of one letter", system("a;").size(), ENDLESS);
        due("size() of a circle behind a tail", completed("ab;aa=a;bb=b;").size(), ENDLESS);
        due("size() of the empty word alone", completed("abc;a=;b=;c=;").size(), 1);
        due("size() of 8 turning letters", turning(8, 24).size(), 110075314176L);
        // The symmetric group of 5.
        due("size()", completed("abcd;aa=;bb=;cc=;dd=;aba=bab;bcb=cbc;cdc=dcd;ac=ca;ad=da;bd=db;").size(), 120);
    }

    private static void element() {
        promise("promise 22");
        Counted x = system("ab;bb=;");
        dueElementRefusals(x);
        x.complete(500);
        String[] words = {"", "a", "b", "aa", "ab", "ba", "aaa", "aab", "aba", "baa", "bab"};
        for (int i = 0; i < words.length; i++) {
            due("element(" + i + ", 1)", x.element(i, 1), words[i].length());
            dueWord(x, 1, words[i]);
        }
        due("element(0, 1)", x.element(0, 1), 0);
        due("length(1)", x.length(1), 0);
        due("element(0, 8)", x.element(0, 8), BAD);
        due("element(0, -1)", x.element(0, -1), BAD);
        due("element(-1, 0)", x.element(-1, 0), BAD);
        x = turning(4, 24);
        due("size()", x.size(), 331776);
        due("element(331775, 0)", x.element(331775, 0), FULL);
        due("element(331776, 0)", x.element(331776, 0), BAD);
        due("length(0)", x.length(0), 0);
        // As many words have more than 80 letters as have fewer than 12: 1365.
        due("element(330410, 0)", x.element(330410, 0), 80);
        due("element(330411, 0)", x.element(330411, 0), FULL);
        due("number(0)", x.number(0), 330410);
        x = system("a;");
        due("element(80, 0)", x.element(80, 0), 80);
        due("element(81, 0)", x.element(81, 0), FULL);
        x = system("ab;");
        due("element(2147483647, 0)", x.element(2147483647, 0), 31);
        dueWord(x, 0, times("a", 31));
        x = system("ab;ba=bb;");
        due("complete(500)", x.complete(500), 2);
        dueElementRefusals(x);
    }

    /** Of a system that is not COMPLETE: STATE goes ahead of "there are not so many" alone. */
    private static void dueElementRefusals(Counted x) {
        int[] none = {-1, -2, Integer.MIN_VALUE};
        int[] noSlot = {-1, 8, Integer.MIN_VALUE, Integer.MAX_VALUE};
        due("element(0, 0)", x.element(0, 0), STATE);
        due("element(0, 7)", x.element(0, 7), STATE);
        due("element(2147483647, 0)", x.element(Integer.MAX_VALUE, 0), STATE);
        for (int i : none) {
            due("element(" + i + ", 0)", x.element(i, 0), BAD);
        }
        for (int slot : noSlot) {
            due("element(0, " + slot + ")", x.element(0, slot), BAD);
            due("element(2147483647, " + slot + ")", x.element(Integer.MAX_VALUE, slot), BAD);
            due("element(-1, " + slot + ")", x.element(-1, slot), BAD);
        }
    }

    private static void number() {
        promise("promise 23");
        Counted x = system("ab;bb=;");
        due("number(0)", x.number(0), STATE);
        due("number(8)", x.number(8), BAD);
        x.complete(500);
        for (int i = 0; i < 40; i++) {
            x.element(i, 2);
            due("number of element " + i, x.number(2), i);
        }
        wordText(x, 0, "abbbab");
        due("number(0)", x.number(0), 15);
        dueWord(x, 0, "abbbab");
        due("number(-1)", x.number(-1), BAD);
        x = system("ab;");
        wordText(x, 0, times("a", 31));
        due("2147483647", x.number(0), 2147483647);
        wordText(x, 0, times("a", 30) + "b");
        due("2147483648", x.number(0), FULL);
        wordText(x, 0, times("b", 80));
        due("far above", x.number(0), FULL);
        x = completed("ab;ba=ab;");
        wordText(x, 0, times("b", 40) + times("a", 40));
        due("TOO LONG", x.number(0), FULL);
    }

    private static void product() {
        promise("promise 24");
        Counted x = system("ab;aa=;bbb=;abab=;");
        due("product(-1, 0)", x.product(-1, 0), STATE);
        x.complete(500);
        due("product(1, 2)", x.product(1, 2), 3);
        due("product(2, 1)", x.product(2, 1), 4);
        due("product(5, 5)", x.product(5, 5), 2);
        due("product(6, 0)", x.product(6, 0), BAD);
        due("product(0, 6)", x.product(0, 6), BAD);
        due("product(0, -1)", x.product(0, -1), BAD);
        due("product(-1, 0)", x.product(-1, 0), BAD);
        for (int i = 0; i < 8; i++) due("length(" + i + ")", x.length(i), 0);
        x = system("a;");
        due("product(40, 40)", x.product(40, 40), 80);
        due("product(40, 41)", x.product(40, 41), FULL);
        due("product(81, 0)", x.product(81, 0), FULL);
        x = system("ab;");
        due("product of 15 and 16 letters", x.product(32767, 65535), 2147483647);
        due("product of 15 and 16 letters", x.product(32767, 65536), FULL);
        x = turning(4, 24);
        due("product(331775, 331776)", x.product(331775, 331776), BAD);
        due("product(331776, 331775)", x.product(331776, 331775), BAD);
        due("product(331775, 0)", x.product(331775, 0), FULL);
        x = completed("ab;ba=ab;");
        // b^39 and a^40 would want 1560 STEPS.
        due("TOO LONG", x.product(39 * 40 / 2 + 39, 40 * 41 / 2), FULL);
    }

    private static void power() {
        promise("promise 25");
        Counted x = system("a;" + times("a", 9) + "=aaaa;");
        due("power(-1, 2)", x.power(-1, 2), STATE);
        x.complete(500);
        due("power(1, 0)", x.power(1, 0), 4);
        due("power(1, 1)", x.power(1, 1), 5);
        due("power(0, 0)", x.power(0, 0), 0);
        due("power(0, 1)", x.power(0, 1), 1);
        due("power(8, 0)", x.power(8, 0), 1);
        due("power(8, 1)", x.power(8, 1), 5);
        due("power(9, 0)", x.power(9, 0), BAD);
        due("power(-1, 0)", x.power(-1, 0), BAD);
        due("power(1, 2)", x.power(1, 2), BAD);
        due("power(1, -1)", x.power(1, -1), BAD);
        x = completed("ab;" + times("a", 20) + "=b;" + times("b", 10) + "=;ba=ab;");
        due("size()", x.size(), 200);
        due("the 200th comes again", x.power(1, 0), 0);
        due("the 200th comes again", x.power(1, 1), 200);
        x = completed("ab;" + times("a", 20) + "=b;" + times("b", 10) + "a=;ba=ab;");
        due("size()", x.size(), 201);
        due("the 201st comes again", x.power(1, 0), NONE);
        due("the 201st comes again", x.power(1, 1), NONE);
        due("power(1, 2)", x.power(1, 2), BAD);
        x = system("a;");
        due("too many letters", x.power(1, 0), FULL);
        due("too many letters", x.power(81, 1), FULL);
        x = system("ab;");
        due("too great a number", x.power(1, 0), FULL);
    }

    private static void inverse() {
        promise("promise 26");
        Counted x = system("ab;aa=;bbb=;abab=;");
        due("inverse(-1)", x.inverse(-1), STATE);
        x.complete(500);
        int[] due = {0, 1, 5, 3, 4, 2};
        for (int i = 0; i < 6; i++) due("inverse(" + i + ")", x.inverse(i), due[i]);
        due("inverse(6)", x.inverse(6), BAD);
        due("inverse(-1)", x.inverse(-1), BAD);
        x = completed("ab;ab=;");
        due("an inverse at one side alone", x.inverse(1), NONE);
        x = completed("ab;aa=a;b=;");
        due("none at all", x.inverse(1), NONE);
        x = completed("ab;" + times("a", 24) + "=b;" + times("b", 24) + "=;ba=ab;");
        int low = x.inverse(399);
        due("inverse(" + low + ")", x.inverse(low), 399);
        low = x.inverse(400);
        due("product(400, " + low + ")", x.product(400, low), 0);
        due("inverse(" + low + "), not below 400", x.inverse(low), NONE);
        x = system("a;");
        due("inverse(1), too many letters", x.inverse(1), FULL);
        due("inverse(0)", x.inverse(0), 0);
        due("inverse(81), too many letters", x.inverse(81), FULL);
        x = completed("ab;aa=a;bb=b;");
        due("inverse(1)", x.inverse(1), FULL);
    }

    private static void commutes() {
        promise("promise 27");
        Counted x = system("ab;ba=ab;");
        due("commutes()", x.commutes(), STATE);
        x.complete(500);
        due("commutes()", x.commutes(), 1);
        due("commutes()", system("ab;").commutes(), 0);
        due("commutes()", system("a;").commutes(), 1);
        due("commutes()", new Counted().commutes(), 1);
        due("commutes()", completed("abc;ba=ab;ca=ac;").commutes(), 0);
        due("commutes()", completed("abc;ba=ab;ca=ac;cb=bc;").commutes(), 1);
        due("commutes()", completed("abc;ba=ab;c=a;").commutes(), 1);
        due("commutes()", completed("ab;aa=;bb=;abab=;").commutes(), 1);
    }
}
