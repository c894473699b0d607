/** Edges of the tape and of texts: "1 TEXTS" and promises 2 to 5, sentence by sentence. */
public final class TextEdgesTest extends Checks {
    public static void main(String[] args) {
        tapeHolds600();
        blanksArePassedOver();
        presentations();
        lettersAreOneToEight();
        lettersAreSmallOnes();
        lettersAreAllDifferent();
        lettersAreNumbered();
        wordsHave0To24();
        equationsAreAtMost40();
        placeCountsBytesAhead();
        placeOfTheEndIsAll();
        firstFaultFromTheLeft();
        leastFaultOfOnePlace();
        bytesThatCannotStandThere();
        theEndCannotStandThere();
        strangeLetters();
        tooMuch();
        feedTakesOneToEight();
        feedTakesTheLowestBytes();
        feedRefusesWhole();
        readEmptiesTheTape();
        readBeginsANewSystem();
        readBeginsNewElements();
        readWithAFaultKeepsAll();
        wordHasAtMost80();
        wordMayBeEmpty();
        wordRefusedKeepsTheTape();
        wordWithAFaultKeepsTheSlot();
        wordAheadOfAnyLetters();
        faultIsTheLatest();
        faultIs0BeforeOne();
        end();
    }

    private static void dueFault(String text, int number, int place) {
        Counted x = new Counted();
        due("read of \"" + text + "\"", readText(x, text), -1000 - place);
        due("fault() of \"" + text + "\"", x.fault(), number);
    }

    private static void dueWordFault(String text, int number, int place) {
        Counted x = system("ab;");
        due("word of \"" + text + "\"", wordText(x, 0, text), -1000 - place);
        due("fault() of \"" + text + "\"", x.fault(), number);
        due("length(0)", x.length(0), 0);
    }

    private static void dueRead(String text, int equations) {
        Counted x = new Counted();
        due("read of \"" + text + "\"", readText(x, text), equations);
        due("fault() of \"" + text + "\"", x.fault(), 0);
    }

    private static boolean isBlank(int b) {
        return b == 32 || b == 10;
    }

    private static boolean isLetter(int b) {
        return b >= 'a' && b <= 'z';
    }

    // ---- 1 TEXTS

    private static void tapeHolds600() {
        sentence("1 TEXTS", "THE TAPE has at most 600 bytes");
        Counted x = new Counted();
        String long50 = times("a", 24) + "=" + times("b", 24) + ";";
        String text = "ab;" + times(long50, 11) + times("b", 24) + "=" + times("a", 21) + ";";
        due("the test's own text has", text.length(), 600);
        due("599 bytes", put(x, text.substring(0, 599)), 599);
        due("the 600th", x.feed(';', 1), 600);
        due("the 601st", x.feed(' ', 1), FULL);
        due("read() of 600 bytes", x.read(), 12);
        due("the last letter of all", x.waiting(11, 1, 20), 0);
    }

    private static void blanksArePassedOver() {
        sentence("1 TEXTS", "bytes 32 and 10 are passed over wherever they stand");
        dueRead(" \na;", 0);
        dueRead("a \nb ;", 0);
        dueRead("a; \n", 0);
        dueRead("a;\na a =\n a\na ;\n", 1);
        dueRead("a; = ;\n=\n;", 2);
        dueRead(" \na \n; \na \na \n= \na \n; \n", 1);
        dueRead("a;" + times("a ", 24) + "=" + times("\na", 24) + ";", 1);
        Counted x = system("ab;");
        due("word", wordText(x, 0, " a\n \nb b\n"), 3);
        dueWord(x, 0, "abb");
        due("80 letters with blanks", wordText(x, 0, times("a \nb", 40)), 80);
        due("blanks alone", wordText(x, 0, times(" \n", 300)), 0);
    }

    private static void presentations() {
        sentence("1 TEXTS", "A PRESENTATION: LETTERS ';' { WORD '=' WORD ';' }.");
        dueRead("ab;", 0);
        dueRead("ab;=;", 1);
        dueRead("ab;a=;=b;ab=ba;", 3);
        dueFault("ab", 1, 2);
        dueFault("=;", 1, 0);
        dueFault("ab=;", 1, 2);
        dueFault("ab;a;", 1, 4);
        dueFault("ab;a=b=a;", 1, 6);
        dueFault("ab;a=b", 1, 6);
        dueFault("ab;a=b;b", 1, 8);
    }

    private static void lettersAreOneToEight() {
        sentence("1 TEXTS", "LETTERS: 1 to 8 of a to z");
        dueFault(";", 1, 0);
        dueRead("a;", 0);
        dueRead("abcdefgh;", 0);
        dueFault("abcdefghi;", 3, 8);
        due("count(0) of one", system("q;").count(0), 1);
        due("count(0) of eight", system("stuvwxyz;").count(0), 8);
    }

    private static void lettersAreSmallOnes() {
        sentence("1 TEXTS", "LETTERS: 1 to 8 of a to z");
        for (int b = 0; b < 256; b++) {
            String text = (char) b + ";";
            if (isLetter(b)) {
                dueRead(text, 0);
            } else {
                dueFault(text, 1, isBlank(b) ? 1 : 0);
            }
        }
    }

    private static void lettersAreAllDifferent() {
        sentence("1 TEXTS", "all different");
        dueFault("aa;", 2, 1);
        dueFault("abcdefga;", 2, 7);
        dueFault("za bz;", 2, 4);
    }

    private static void lettersAreNumbered() {
        sentence("1 TEXTS", "they are numbered from 0 on as they stand (so a word's letters are numbers)");
        Counted x = system("zayhgfed;=dz;");
        due("waiting(0, 1, 0)", x.waiting(0, 1, 0), 7);
        due("waiting(0, 1, 1)", x.waiting(0, 1, 1), 0);
        wordText(x, 0, "yzd");
        due("letter(0, 0)", x.letter(0, 0), 2);
        due("letter(0, 1)", x.letter(0, 1), 0);
        due("letter(0, 2)", x.letter(0, 2), 7);
    }

    private static void wordsHave0To24() {
        sentence("1 TEXTS", "WORD: 0 to 24 of these");
        String w24 = times("ab", 12);
        dueRead("ab;=;", 1);
        dueRead("ab;" + w24 + "=;", 1);
        dueRead("ab;=" + w24 + ";", 1);
        dueFault("ab;" + w24 + "a=;", 3, 27);
        dueFault("ab;=" + w24 + "a;", 3, 28);
        dueFault("ab;=" + times("a ", 24) + " a;", 3, 53);
        Counted x = system("ab;" + w24 + "=" + times("ba", 12) + ";=;");
        duePairs(x, w24 + "=" + times("ba", 12), "=");
    }

    private static void equationsAreAtMost40() {
        sentence("1 TEXTS", "At most 40 EQUATIONS.");
        dueRead("a;", 0);
        dueRead("a;" + times("a=;", 40), 40);
        dueFault("a;" + times("a=;", 41), 3, 123);
        due("count(3)", system("a;" + times("=a;", 40)).count(3), 40);
    }

    private static void placeCountsBytesAhead() {
        sentence("1 TEXTS", "each with a PLACE (how many bytes are ahead of it; of the end all)");
        dueFault("A", 1, 0);
        dueFault(" \n A", 1, 3);
        dueFault("a;a =a;\n A", 1, 9);
        dueFault(times(" ", 599) + "A", 1, 599);
        dueWordFault("c", 2, 0);
        dueWordFault(" b \nc", 2, 4);
        dueWordFault(times("\n", 599) + "=", 1, 599);
    }

    private static void placeOfTheEndIsAll() {
        sentence("1 TEXTS", "each with a PLACE (how many bytes are ahead of it; of the end all)");
        dueFault("", 1, 0);
        dueFault("a", 1, 1);
        dueFault("a \n ", 1, 4);
        dueFault("a;a= \n", 1, 6);
        dueFault(times(" ", 600), 1, 600);
    }

    private static void firstFaultFromTheLeft() {
        sentence("1 TEXTS", "the first from the left");
        dueFault("aaA", 2, 1);
        dueFault("abcdefghiA", 3, 8);
        dueFault("aAa", 1, 1);
        dueFault("a;b=A;", 2, 2);
        dueFault("a;=A;b", 1, 3);
        dueFault("a;" + times("a", 25) + "b", 3, 26);
        dueWordFault(times("a", 81) + "=", 3, 80);
        dueWordFault("c=", 2, 0);
        dueWordFault("=c", 1, 0);
    }

    private static void leastFaultOfOnePlace() {
        sentence("1 TEXTS", "of one PLACE the least");
        dueFault("abcdefgha;", 2, 8);
        dueFault("abcdefgh=", 1, 8);
        dueFault("a;" + times("a", 24) + "b=;", 2, 26);
        dueFault("a;=" + times("a", 24) + "b;", 2, 27);
        dueFault("a;" + times("a", 24) + "A=;", 1, 26);
        dueWordFault(times("b", 80) + "c", 2, 80);
        dueWordFault(times("b", 80) + ";", 1, 80);
    }

    private static void bytesThatCannotStandThere() {
        sentence("1 TEXTS", "1 a byte that cannot stand there, or the end");
        for (int b = 0; b < 256; b++) {
            if (isBlank(b) || isLetter(b)) continue;
            char c = (char) b;
            if (b == ';') {
                dueFault("ab;;", 1, 3);
                dueFault("ab;a;", 1, 4);
                dueFault("ab;a=b;;", 1, 7);
            } else {
                dueFault("a" + c, 1, 1);
                dueFault("ab;a=b" + c, 1, 6);
                if (b != '=') dueFault("ab;a" + c, 1, 4);
            }
            dueWordFault("a" + c, 1, 1);
        }
        dueFault("ab;=a=", 1, 5);
        dueFault("ab;==;", 1, 4);
    }

    private static void theEndCannotStandThere() {
        sentence("1 TEXTS", "1 a byte that cannot stand there, or the end");
        dueFault("a", 1, 1);
        dueFault("a;a", 1, 3);
        dueFault("a;=", 1, 3);
        dueFault("a;=a", 1, 4);
        dueFault("a;" + times("=;", 40) + "a", 1, 83);
        dueRead("a;", 0);
        dueRead("a;=;", 1);
    }

    private static void strangeLetters() {
        sentence("1 TEXTS", "2 a letter that is there twice among LETTERS, one in a WORD that is none of them");
        for (char c = 'a'; c <= 'z'; c++) {
            String rest = c == 'm' ? "m" : "m" + c;
            dueFault(rest + c + ";", 2, rest.length());
            if (c == 'm') continue;
            dueFault("m;" + c + "=;", 2, 2);
            dueFault("m;m=" + c + ";", 2, 4);
        }
        dueWordFault("z", 2, 0);
        dueWordFault("abc", 2, 2);
    }

    private static void tooMuch() {
        sentence("1 TEXTS", "3 too much: the ninth of LETTERS, the 25th letter of a WORD (of a WORD for a SLOT the 81st), "
            + "the = of the 41st EQUATION.");
        dueFault("abcdefgh z;", 3, 9);
        dueFault("a;" + times("a", 25), 3, 26);
        dueFault("a;=" + times("a", 25), 3, 27);
        dueWordFault(times("ab", 40) + "\n a", 3, 82);
        String full = "a;" + times("=;", 40);
        dueFault(full + "=", 3, 82);
        dueFault(full + "aa \n=", 3, 86);
        dueFault(full + "b", 2, 82);
        dueFault(full + ";", 1, 82);
        dueFault(full + times("a", 25) + "=", 3, 106);
    }

    // ---- promises 2 to 5

    private static void feedTakesOneToEight() {
        sentence("promise 2", "The lowest n bytes of w (1 to 8), the highest of them first, come behind the tape: how many it has. BAD: n");
        Counted x = new Counted();
        int has = 0;
        for (int n = 1; n <= 8; n++) {
            has += n;
            due("feed(.., " + n + ")", x.feed(0x2020202020202020L, n), has);
        }
        for (int n : new int[] {0, 9, -1, LEAST, MOST, 256, 257}) due("feed(.., " + n + ")", x.feed(0x20L, n), BAD);
        due("feed(.., 1)", x.feed(0x20L, 1), has + 1);
    }

    private static void feedTakesTheLowestBytes() {
        sentence("promise 2", "The lowest n bytes of w (1 to 8), the highest of them first");
        Counted x = system("abcdefgh;");
        String letters = "hgfedcba";
        for (int n = 1; n <= 8; n++) {
            due("feed(.., " + n + ")", x.feed(0x6867666564636261L, n), n);
            x.word(0);
            dueWord(x, 0, letters.substring(8 - n));
        }
        due("feed(-1, 8)", x.feed(-1L, 8), 8);
        due("eight bytes 255", x.word(0), -1000);
        due("feed(.., 1)", x.feed(Long.MIN_VALUE | 'b', 1), 1);
        due("the lowest byte alone", x.word(0), 1);
    }

    private static void feedRefusesWhole() {
        sentence("promise 2", "FULL: none comes.");
        Counted x = system("ab;");
        due("put", put(x, times(" ", 593)), 593);
        due("8 of them, 7 would have room", x.feed(0x6161616161616161L, 8), FULL);
        due("7 of them", x.feed(0x20202020202062L, 7), 600);
        for (int n = 1; n <= 8; n++) due("feed(.., " + n + ")", x.feed(0x6161616161616161L, n), FULL);
        due("BAD ahead of FULL", x.feed(0x61, 9), BAD);
        due("BAD ahead of FULL", x.feed(0x61, 0), BAD);
        due("word(0)", x.word(0), 1);
        dueWord(x, 0, "b");
    }

    private static void readEmptiesTheTape() {
        sentence("promise 3", "The tape, empty then, is read as a PRESENTATION: how many EQUATIONS");
        Counted x = new Counted();
        due("read", readText(x, "ab;a=b;"), 1);
        due("the tape has", x.feed('b', 1), 1);
        due("word(0)", x.word(0), 1);
        due("an empty tape", x.read(), -1000);
        due("a FAULT", readText(x, "ab;a=b"), -1006);
        due("the tape has", x.feed('a', 1), 1);
    }

    private static void readBeginsANewSystem() {
        sentence("promise 3", "a new system begins");
        Counted x = usedSystem();
        due("read", readText(x, "xyz;zyx=x;"), 1);
        dueCounts(x, 3, 0, 0, 1, 0, 0, 0, 0);
        dueEmptySlots(x);
        due("rule(0, 0)", x.rule(0, 0), BAD);
        due("step(0, 0)", x.step(0, 0), NONE);
        dueOverlap(x, NONE, NONE, NONE);
        due("size()", x.size(), STATE);
        due("open()", x.open(), 0);
        duePairs(x, "cba=a");
        due("an old letter", wordText(x, 0, "a"), -1000);
        // A STUCK one, too.
        x = system("ab;ba=bb;");
        due("complete(500)", x.complete(500), 2);
        due("read", readText(x, "a;"), 0);
        dueCounts(x, 1, 0, 0, 0, 0, 1, 0, 0);
        due("complete(1)", x.complete(1), 1);
        due("size()", x.size(), ENDLESS);
    }

    private static void readBeginsNewElements() {
        sentence("promise 3", "a new system begins");
        Counted x = new Counted();
        due("size() ahead of all", x.size(), 1);
        due("many(1) ahead of all", x.many(1), 0);
        String[] texts = {"ab;aa=;bbb=;abab=;", "a;", "a;aa=;", "abc;ba=ab;ca=ac;cb=bc;", "a;a=;", "ab;bb=;", "ab;aa=;bbb=;abab=;"};
        long[] sizes = {6, ENDLESS, 2, ENDLESS, 1, ENDLESS, 6};
        long[] ofOne = {2, 1, 1, 3, 0, 2, 2};
        long[] ofTwo = {3, 1, 0, 6, 0, 3, 3};
        for (int i = 0; i < texts.length; i++) {
            readText(x, texts[i]);
            due("complete(500) of " + texts[i], x.complete(500), 1);
            due("size() of " + texts[i], x.size(), sizes[i]);
            due("many(0) of " + texts[i], x.many(0), 1);
            due("many(1) of " + texts[i], x.many(1), ofOne[i]);
            due("many(2) of " + texts[i], x.many(2), ofTwo[i]);
            int last = (int) (ofOne[i] + ofTwo[i]);
            due("element(" + last + ", 0) of " + texts[i], x.element(last, 0), ofTwo[i] > 0 ? 2 : ofOne[i]);
            due("number(0) of " + texts[i], x.number(0), last);
        }
    }

    /** COMPLETE, with a RULE that was dropped, an overlap that was found, a word in each SLOT and STEPS that are told. */
    private static Counted usedSystem() {
        Counted x = system("ab;aa=;bbb=;abab=;");
        x.complete(3);
        due("open()", x.open(), 1);
        due("complete(500)", x.complete(500), 1);
        for (int slot = 0; slot < 8; slot++) wordText(x, slot, times("ab", slot + 1));
        due("reduce(2)", x.reduce(2), 2);
        return x;
    }

    private static void readWithAFaultKeepsAll() {
        sentence("promise 3", "-1000 less the PLACE of a FAULT: all is as it was.");
        Counted x = usedSystem();
        String[] faulty = {"", "x", "xx;", "xyzabcdef;", "xyz;zyx=x;w=;", "xy;" + times("=;", 41)};
        for (String text : faulty) due("a FAULT", readText(x, text) <= -1000 ? 1 : 0, 1);
        dueCounts(x, 2, 7, 6, 0, 33, 1, 0, 41);
        dueRule(x, 0, "aa>");
        due("rule(2, 0)", x.rule(2, 0), 0);
        dueOverlap(x, 0, 2, 1);
        due("step(0, 0)", x.step(0, 0), 4);
        due("step(1, 0)", x.step(1, 0), 1);
        due("step(2, 0)", x.step(2, 0), NONE);
        dueWord(x, 0, "ab");
        dueWord(x, 2, "ab");
        dueWord(x, 7, times("ab", 8));
        due("size()", x.size(), 6);
        due("open()", x.open(), 0);
        due("the LETTERS", wordText(x, 0, "ba"), 2);
        dueWord(x, 0, "ba");
        due("other LETTERS", wordText(x, 0, "x"), -1000);
        x = system("ab;ab=;ba=b;");
        due("a FAULT while PAIRS wait", readText(x, "c"), -1001);
        duePairs(x, "ab=", "ba=b");
    }

    private static void wordHasAtMost80() {
        sentence("promise 4", "read as a WORD of at most 80 letters into a SLOT: how many");
        Counted x = system("ab;");
        due("79 letters", wordText(x, 0, times("a", 79)), 79);
        due("80 letters", wordText(x, 0, times("b", 80)), 80);
        due("length(0)", x.length(0), 80);
        due("81 letters", wordText(x, 0, times("a", 81)), -1080);
        due("fault()", x.fault(), 3);
        due("600 letters", wordText(x, 0, times("a", 600)), -1080);
    }

    private static void wordMayBeEmpty() {
        sentence("promise 4", "The tape, empty then, is read as a WORD of at most 80 letters into a SLOT: how many.");
        Counted x = system("ab;");
        wordText(x, 5, "ab");
        due("an empty tape", x.word(5), 0);
        due("length(5)", x.length(5), 0);
        due("fault()", x.fault(), 0);
        due("one letter", wordText(x, 5, "a"), 1);
        due("the tape is empty", x.feed('b', 1), 1);
    }

    private static void wordRefusedKeepsTheTape() {
        sentence("promise 4", "BAD (the tape stays)");
        Counted x = system("ab;");
        put(x, "ab");
        for (int slot : new int[] {-1, 8, LEAST, MOST}) due("word(" + slot + ")", x.word(slot), BAD);
        due("the tape has", x.feed('b', 1), 3);
        due("word(0)", x.word(0), 3);
        dueWord(x, 0, "abb");
        put(x, "c");
        due("BAD ahead of a FAULT", x.word(8), BAD);
        due("fault()", x.fault(), 0);
        due("the FAULT", x.word(7), -1000);
    }

    private static void wordWithAFaultKeepsTheSlot() {
        sentence("promise 4", "-1000 less the PLACE of a FAULT: the SLOT is as it was.");
        Counted x = system("ab;");
        wordText(x, 6, "ba");
        String[] faulty = {"aac", "aa=", times("a", 81)};
        int[] places = {2, 2, 80};
        for (int i = 0; i < 3; i++) {
            due("word", wordText(x, 6, faulty[i]), -1000 - places[i]);
            dueWord(x, 6, "ba");
            due("the tape is empty", x.word(5), 0);
        }
    }

    private static void wordAheadOfAnyLetters() {
        sentence("promise 1", "No LETTERS");
        Counted x = new Counted();
        due("word(0) of nothing", x.word(0), 0);
        due("word of a letter", wordText(x, 0, "a"), -1000);
        due("fault()", x.fault(), 2);
    }

    private static void faultIsTheLatest() {
        sentence("promise 5", "The number of the latest FAULT (1 .. 3)");
        Counted x = new Counted();
        readText(x, "abcdefghi;");
        due("fault()", x.fault(), 3);
        readText(x, "aa;");
        due("fault()", x.fault(), 2);
        readText(x, "A");
        due("fault()", x.fault(), 1);
        readText(x, "ab;");
        due("fault() behind a good text", x.fault(), 1);
        wordText(x, 0, "c");
        due("fault()", x.fault(), 2);
        wordText(x, 0, "a");
        due("fault() behind a good word", x.fault(), 2);
        wordText(x, 0, times("a", 81));
        due("fault()", x.fault(), 3);
        x.word(8);
        x.feed(0, 9);
        due("fault() behind refusals", x.fault(), 3);
    }

    private static void faultIs0BeforeOne() {
        sentence("promise 5", "0 before one.");
        Counted x = new Counted();
        due("fault()", x.fault(), 0);
        x.feed(0, 0);
        x.word(8);
        x.word(0);
        readText(x, "a;aa=;");
        due("fault()", x.fault(), 0);
    }
}
