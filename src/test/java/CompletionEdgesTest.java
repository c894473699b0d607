/** Edges of the completion: "2 WORDS", "3 COMPLETION" and promises 6 to 12, sentence by sentence. */
public final class CompletionEdgesTest extends Checks {
    // STUCK in (a): RULE 38, baa>aba, is the new one, and older LEFTS that it stands in are LIVE.
    private static final String NESTED = "ab;baaaa=;ababb=bbaba;";
    private static final int NESTED_PAIRS = 56;
    // 1000 PAIRS are WAITING behind the 241st that is treated; the 267th is one too many.
    private static final String LONG_ROW = "ab;ba=bbaab;";
    // The 481st PAIR that is treated has two words of 119 letters.
    private static final String LONG_PAIRS = "ab;aaabbaa=bbbbbbb;";
    // COMPLETE with just 200 RULES, behind 2015 PAIRS.
    private static final String MANY_RULES = "abcd;ddbbdab=;bbdbbbd=d;dcda=;";
    // With COUNTER and ef>af these want just 1000 and 1001 STEPS.
    private static final String STEPS_1000 = "efcccccbccef", STEPS_1001 = "efefcccccbccef";

    public static void main(String[] args) {
        rulesAreNumberedAsTheyAreMade();
        firstPlaceAtWhichALeftEnds();
        leastNumberOfSeveral();
        reducingOfTheOneWord();
        reducingOfTheOtherWord();
        reducingOfARight();
        pairsAreTheEquations();
        likeFormsAreAll();
        fromTheGreaterToTheLesser();
        olderRulesAreDropped();
        droppedAsTheyAre();
        rightsBecomeForms();
        overlapsOfOneLetterUpToOneLess();
        overlapsBecomePairs();
        overlapsExchanged();
        overlapsInOrder();
        longestPairs();
        stuckAtRule200();
        stuckAtALeftOf61();
        stuckAtPair1001();
        stuckAtStep1001();
        stuckForGood();
        completeIfNotStuck();
        doneTillThenStays();
        oneUnitOfFuelEach();
        fuelIs1To500();
        countsOfLettersRulesAndPairs();
        counts();
        treatedWithTheStuckOne();
        stepsThatWereNotTooLong();
        rulesThatThereAre();
        droppedRulesAsTheyWere();
        lettersOfRules();
        lettersOfPairs();
        rowGoesRound();
        openInOrder();
        openFindsNone();
        openWhereALeftIsDropped();
        openUpTo1000Steps();
        openIsFullAheadOfOne();
        overlapIsOfTheLatestThatFound();
        overlapIsOfThisSystem();
        overlapRefuses();
        end();
    }

    // ---- 2 WORDS

    private static void rulesAreNumberedAsTheyAreMade() {
        sentence("2 WORDS", "RULES have numbers 0, 1, .. as they are made, a LEFT word, a RIGHT one, which is less; "
            + "they are LIVE till they are dropped.");
        Counted x = system("abc;cab=;ca=;b=a;");
        due("rule(0, 0) before it is made", x.rule(0, 0), BAD);
        x.complete(1);
        dueLive(x, 1, BAD);
        x.complete(1);
        dueLive(x, 0, 1, BAD);
        x.complete(1);
        // The number of the dropped one is not used again.
        dueLive(x, 0, 1, 1, BAD);
        dueRule(x, 0, "cab>");
        dueRule(x, 1, "ca>");
        dueRule(x, 2, "b>a");
    }

    private static Counted nested() {
        Counted x = system(NESTED);
        due("complete(500)", x.complete(500), 2);
        due("count(4)", x.count(4), NESTED_PAIRS);
        return x;
    }

    private static void dueFirstStep(Counted x, String word, int rule, int place) {
        wordText(x, 0, word);
        due("reduce(0) of " + word + " has STEPS", x.reduce(0) > 0 ? 1 : 0, 1);
        due("step(0, 0) of " + word, x.step(0, 0), rule);
        due("step(0, 1) of " + word, x.step(0, 1), place);
    }

    private static void firstPlaceAtWhichALeftEnds() {
        sentence("2 WORDS", "of all places at which the LEFT of a LIVE RULE ends in it the first one");
        Counted x = nested();
        dueRule(x, 35, "baabbba>baababb");
        dueRule(x, 38, "baa>aba");
        // RULE 35 begins there, too, but ends later.
        dueFirstStep(x, "baabbba", 38, 0);
        dueFirstStep(x, "abaabbba", 38, 1);
        x = system("abc;bc=a;ab=c;");
        x.complete(2);
        dueFirstStep(x, "abc", 1, 0);
        dueFirstStep(x, "bbcab", 0, 1);
    }

    private static void leastNumberOfSeveral() {
        sentence("2 WORDS", "(of several RULES that end there the one with the least number: but in a STUCK system there is one alone)");
        Counted x = nested();
        dueRule(x, 9, "babaa>baaba");
        // Both RULE 9 and RULE 38 end with the last letter.
        dueFirstStep(x, "babaa", 9, 0);
        dueFirstStep(x, "aababaa", 9, 2);
        dueFirstStep(x, "aabaa", 38, 2);
    }

    private static void reducingOfTheOneWord() {
        sentence("2 WORDS", "A REDUCING that would want more than 1000 STEPS is TOO LONG.");
        Counted x = system("abcdefg;" + COUNTER + "ef=af;" + STEPS_1000 + "=g;");
        due("complete(5)", x.complete(5), 0);
        dueCounts(x, 7, 5, 5, 2, 5, 0, 0, 1000);
        x = system("abcdefg;" + COUNTER + "ef=af;" + STEPS_1001 + "=g;");
        due("complete(5)", x.complete(5), 2);
        dueCounts(x, 7, 4, 4, 0, 5, 0, 1, 0);
    }

    private static void reducingOfTheOtherWord() {
        sentence("3 COMPLETION", "both words are REDUCED (first the one, then the other)");
        Counted x = system("abcdefg;" + COUNTER + "ef=af;gef=" + STEPS_1000 + ";");
        due("complete(5)", x.complete(5), 0);
        due("count(7): 1 STEP and 1000", x.count(7), 1001);
        x = system("abcdefg;" + COUNTER + "ef=af;gef=" + STEPS_1001 + ";");
        due("complete(5)", x.complete(5), 2);
        due("count(7): that of the one word", x.count(7), 1);
        due("count(1)", x.count(1), 4);
        x = system("abcdefg;" + COUNTER + "ef=af;" + STEPS_1001 + "=gef;");
        due("complete(5)", x.complete(5), 2);
        due("count(7): the other word is not come to", x.count(7), 0);
    }

    private static void reducingOfARight() {
        sentence("3 COMPLETION", "(b) for each older LIVE RULE that is left, by numbers: its RIGHT becomes the FORM of it");
        String greater = times("g", 15);
        Counted x = system("abcdefg;" + greater + "=" + STEPS_1000 + ";" + COUNTER + "ef=af;");
        due("complete(5)", x.complete(5), 0);
        due("count(7)", x.count(7), 1000);
        due("rule(0, 2)", x.rule(0, 2), STEPS_1000.length());
        due("ruleLetter(0, 1, 0)", x.ruleLetter(0, 1, 0), 0);
        x = system("abcdefg;" + greater + "=" + STEPS_1001 + ";" + COUNTER + "ef=af;");
        due("complete(5)", x.complete(5), 2);
        due("count(7)", x.count(7), 0);
        dueRule(x, 0, greater + ">" + STEPS_1001);
    }

    // ---- 3 COMPLETION

    private static void pairsAreTheEquations() {
        sentence("3 COMPLETION", "WAITING are PAIRS of words, in a row: as a PRESENTATION is read its EQUATIONS, in order.");
        duePairs(system("ab;"));
        duePairs(system("ab;=;"), "=");
        duePairs(system("ab;b=a;a=b;=a;b=;"), "b=a", "a=b", "=a", "b=");
        Counted x = system("ab;" + times("a=;", 39) + "b=;");
        due("count(3)", x.count(3), 40);
        duePair(x, 39, "b=");
    }

    private static void likeFormsAreAll() {
        sentence("3 COMPLETION", "if the FORMS are the same, that is all");
        Counted x = system("ab;ab=ab;=;b=;bb=;ab=a;");
        due("complete(2)", x.complete(2), 0);
        dueCounts(x, 2, 0, 0, 3, 2, 0, 0, 0);
        due("complete(3)", x.complete(3), 1);
        dueCounts(x, 2, 1, 1, 0, 5, 1, 0, 3);
    }

    private static void fromTheGreaterToTheLesser() {
        sentence("3 COMPLETION", "Else a RULE is made, from the greater FORM to the lesser one, LIVE at once");
        String[] texts = {"ab;a=;", "ab;=a;", "ab;ab=ba;", "ab;ba=ab;", "ab;b=aa;", "ab;aa=b;", "ab;aab=aba;"};
        String[] rules = {"a>", "a>", "ba>ab", "ba>ab", "aa>b", "aa>b", "aba>aab"};
        for (int i = 0; i < texts.length; i++) {
            Counted x = system(texts[i]);
            x.complete(1);
            dueRule(x, 0, rules[i]);
            dueLive(x, 1, BAD);
        }
    }

    private static void olderRulesAreDropped() {
        sentence("3 COMPLETION", "(a) for each older LIVE RULE, by numbers: if the new LEFT stands somewhere in its LEFT, it is dropped");
        // ab stands at the beginning, in the middle, at the end, not at all; fab and abc overlap, no others.
        Counted x = system("abcdefgh;abc=d;dabe=f;fab=h;gh=c;ab=;");
        due("complete(4)", x.complete(4), 0);
        dueLive(x, 1, 1, 1, 1);
        due("complete(1)", x.complete(1), 0);
        dueLive(x, 0, 0, 0, 1, 1, BAD);
        duePairs(x, "hc=fd", "abc=d", "dabe=f", "fab=h");
        // What is dropped is not dropped again.
        x = system("abc;cab=;ca=;a=;");
        due("complete(3)", x.complete(3), 0);
        dueLive(x, 0, 0, 1);
        duePairs(x, "cab=", "ca=");
        // The other way round nothing is dropped: the longer word is reduced.
        x = system("abc;ab=;cabc=;");
        due("complete(2)", x.complete(2), 0);
        dueLive(x, 1, 1);
        dueRule(x, 1, "cc>");
    }

    private static void droppedAsTheyAre() {
        sentence("3 COMPLETION", "and its LEFT and RIGHT (as they are) come behind the row as a PAIR");
        Counted x = dropping();
        duePair(x, 3, "abc=cab");
        duePair(x, 4, "cbac=ab");
        due("count(3)", x.count(3), 5);
    }

    /** b> drops RULE 0, whose RIGHT has a b, too; RULE 1 is left. */
    private static Counted dropping() {
        Counted x = system("abc;cbac=ab;cc=ab;b=;");
        due("complete(3)", x.complete(3), 0);
        return x;
    }

    private static void rightsBecomeForms() {
        sentence("3 COMPLETION", "(b) for each older LIVE RULE that is left, by numbers: its RIGHT becomes the FORM of it");
        Counted x = dropping();
        dueLive(x, 0, 1, 1);
        dueRule(x, 0, "cbac>ab");
        dueRule(x, 1, "cc>a");
        due("count(7): of RULE 1 alone", x.count(7), 1);
        // Each RIGHT is reduced with all LIVE RULES, not with the new one alone.
        x = system("abc;ccc=ba;ab=;b=a;");
        due("complete(2)", x.complete(2), 0);
        dueRule(x, 0, "ccc>ba");
        due("complete(1)", x.complete(1), 0);
        dueRule(x, 0, "ccc>aa");
        // The PAIRS of (c) are made of the new RIGHTS.
        x = system("abc;ccb=ba;ba=a;");
        due("complete(2)", x.complete(2), 0);
        dueRule(x, 0, "ccb>a");
        duePairs(x, "aa=cca");
    }

    private static void overlapsOfOneLetterUpToOneLess() {
        sentence("3 COMPLETION", "with n from 1 to 1 less than the length of the shorter LEFT of both");
        String[] texts = {"ab;a=;", "ab;ab=;", "ab;aa=;", "ab;aaa=b;", "ab;aaaa=;"};
        String[][] pairs = {{}, {}, {"a=a"}, {"baa=aab", "ba=ab"}, {"aaa=aaa", "aa=aa", "a=a"}};
        for (int i = 0; i < texts.length; i++) {
            Counted x = system(texts[i]);
            due("complete(1) of " + texts[i], x.complete(1), pairs[i].length == 0 ? 1 : 0);
            duePairs(x, pairs[i]);
        }
        // 1 less than the shorter, whichever is the new one.
        Counted x = system("ab;abb=;bbaaaa=;");
        x.complete(2);
        duePairs(x, "bb=bbaaa", "baaaa=ab", "aaaa=a");
        x = system("ab;bbaaaa=;abb=;");
        x.complete(2);
        duePairs(x, "baaaa=ab", "aaaa=a", "bb=bbaaa");
    }

    private static void overlapsBecomePairs() {
        sentence("3 COMPLETION", "if the last n letters of the new LEFT are the first n of that one's LEFT: the PAIR of the new RIGHT "
            + "followed by what is behind these in that LEFT, and what is ahead of them in the new LEFT followed by that one's RIGHT, "
            + "comes behind the row");
        // The new LEFT is abc, and it ends as bcd begins.
        Counted x = system("abcdef;bcd=ff;abc=e;a=a;");
        due("complete(2)", x.complete(2), 0);
        duePairs(x, "a=a", "ed=aff");
        // Each n for itself: abaa ends with a, and with aa; it does so with its own beginning, too.
        x = system("abcd;aac=d;abaa=c;");
        due("complete(2)", x.complete(2), 0);
        duePairs(x, "cac=abad", "cc=abd", "cbaa=abac");
        // Like words as well.
        x = system("ab;aba=a;");
        due("complete(1)", x.complete(1), 0);
        duePairs(x, "aba=aba");
    }

    private static void overlapsExchanged() {
        sentence("3 COMPLETION", "the same with both exchanged (that one's last letters, the new one's first)");
        // The new LEFT is bcd, and it begins as abc ends.
        Counted x = system("abcdef;abc=e;bcd=ff;a=a;");
        due("complete(2)", x.complete(2), 0);
        duePairs(x, "a=a", "ed=aff");
        // Both ways: first those that the new LEFT, cba, is ahead in.
        x = system("abcd;abc=d;cba=d;");
        due("complete(2)", x.complete(2), 0);
        duePairs(x, "dbc=cbd", "dba=abd");
    }

    private static void overlapsInOrder() {
        sentence("3 COMPLETION", "then, for another RULE than the new one, with n from 1 on again, the same with both exchanged");
        Counted x = system("abc;cbac=ab;cc=ab;b=;");
        x.complete(2);
        // RULE 0 with itself; cc with RULE 0, RULE 0 with cc, cc with itself.
        duePairs(x, "b=", "abbac=cbaab", "abbac=cab", "abc=cbaab", "abc=cab");
        sentence("3 COMPLETION", "(c) for each LIVE RULE, by numbers (the new one too, as the last)");
        x = system("abc;ac=;ab=;ca=b;");
        x.complete(3);
        // ca with ac, ac with ca, ca with ab; no RULE begins as ab ends.
        duePairs(x, "bc=c", "a=ab", "bb=c");
    }

    private static void longestPairs() {
        sentence("3 COMPLETION", "with n from 1 to 1 less than the length of the shorter LEFT of both");
        // A LEFT and a RIGHT of 60 letters, and a LEFT of 60 of which one letter is shared: 119 letters.
        Counted x = system(LONG_PAIRS);
        due("complete(480)", x.complete(480), 0);
        for (int side = 0; side < 2; side++) {
            due("waiting(0, " + side + ", 118)", x.waiting(0, side, 118) >= 0 ? 1 : 0, 1);
            due("waiting(0, " + side + ", 119)", x.waiting(0, side, 119), NONE);
        }
        int made = x.count(1);
        int steps = x.count(7);
        // Such words are REDUCED as all others are: here the FORMS are the same.
        due("complete(1)", x.complete(1), 0);
        due("count(1)", x.count(1), made);
        due("count(7)", x.count(7), steps + 24);
        due("complete(500)", x.complete(500), 2);
    }

    private static void stuckAtRule200() {
        sentence("3 COMPLETION", "a RULE number 200 (the 201st)");
        Counted x = system(MANY_RULES);
        for (int i = 0; i < 4; i++) due("complete(500)", x.complete(500), 0);
        due("complete(500)", x.complete(500), 1);
        dueCounts(x, 4, 200, 15, 0, 2015, 1, 0);
        due("rule(199, 0)", x.rule(199, 0) == BAD ? 1 : 0, 0);
        due("rule(200, 0)", x.rule(200, 0), BAD);
        x = system("ab;baabb=;");
        due("complete(500)", x.complete(500), 0);
        due("complete(218)", x.complete(218), 0);
        dueCounts(x, 2, 200, 115, 716, 718, 0, 0);
        due("complete(1)", x.complete(1), 2);
        dueCounts(x, 2, 200, 115, 715, 719, 0, 1);
        due("rule(199, 0)", x.rule(199, 0), 1);
        due("rule(200, 0)", x.rule(200, 0), BAD);
    }

    private static void stuckAtALeftOf61() {
        sentence("3 COMPLETION", "a RULE with a LEFT of more than 60 letters");
        Counted x = system("ab;baab=;");
        due("complete(500)", x.complete(500), 2);
        due("count(1)", x.count(1), 32);
        due("rule(31, 1): 60 are none too many", x.rule(31, 1), 60);
        due("ruleLetter(31, 0, 59)", x.ruleLetter(31, 0, 59) >= 0 ? 1 : 0, 1);
        due("ruleLetter(31, 0, 60)", x.ruleLetter(31, 0, 60), NONE);
        x = system("ab;bab=aab;");
        due("complete(225)", x.complete(225), 0);
        due("rule(28, 1)", x.rule(28, 1), 59);
        due("the next would have 61", x.complete(1), 2);
        dueCounts(x, 2, 29, 29);
        due("rule(29, 0)", x.rule(29, 0), BAD);
    }

    private static void stuckAtPair1001() {
        sentence("3 COMPLETION", "a 1001st PAIR WAITING (as it would come behind)");
        Counted x = system(LONG_ROW);
        due("complete(241)", x.complete(241), 0);
        dueCounts(x, 2, 36, 36, 1000, 241, 0, 0);
        due("waiting(999, 0, 0)", x.waiting(999, 0, 0) >= 0 ? 1 : 0, 1);
        due("waiting(1000, 0, 0)", x.waiting(1000, 0, 0), BAD);
        due("complete(25)", x.complete(25), 0);
        due("count(3)", x.count(3), 975);
        due("complete(1)", x.complete(1), 2);
        dueCounts(x, 2, 37, 37, 1000, 267, 0, 1);
        due("rule(36, 0)", x.rule(36, 0), 1);
    }

    private static void stuckAtStep1001() {
        sentence("3 COMPLETION", "a REDUCING that is TOO LONG.");
        String[] steps = {STEPS_1000, STEPS_1001};
        for (String word : steps) {
            int answer = word.equals(STEPS_1000) ? 0 : 2;
            String[] texts = {COUNTER + "ef=af;" + word + "=;", COUNTER + "ef=af;=" + word + ";", times("g", 15) + "=" + word + ";" + COUNTER + "ef=af;"};
            for (String text : texts) {
                Counted x = system("abcdefg;" + text + "=;");
                due("complete(5) of " + text, x.complete(5), answer);
                due("count(6) of " + text, x.count(6), answer / 2);
            }
        }
    }

    private static void stuckForGood() {
        sentence("3 COMPLETION", "It is STUCK, for good, as soon as one of these would be");
        Counted x = system("abcdefg;" + COUNTER + "ef=af;" + STEPS_1001 + "=g;a=b;");
        due("complete(500)", x.complete(500), 2);
        for (int fuel : new int[] {1, 500}) {
            due("complete(" + fuel + ")", x.complete(fuel), 2);
            dueCounts(x, 7, 4, 4, 1, 5, 0, 1, 0);
            duePairs(x, "a=b");
        }
        due("a FAULT", readText(x, "A"), -1000);
        due("count(6)", x.count(6), 1);
    }

    private static void completeIfNotStuck() {
        sentence("3 COMPLETION", "It is COMPLETE when no PAIR is WAITING, if it is not STUCK.");
        dueCounts(new Counted(), 0, 0, 0, 0, 0, 1, 0, 0);
        dueCounts(system("ab;"), 2, 0, 0, 0, 0, 1, 0, 0);
        dueCounts(system("ab;=;"), 2, 0, 0, 1, 0, 0, 0, 0);
        Counted x = system("abcdefg;" + COUNTER + "ef=af;" + STEPS_1001 + "=g;");
        due("complete(500)", x.complete(500), 2);
        dueCounts(x, 7, 4, 4, 0, 5, 0, 1, 0);
        due("size()", x.size(), STATE);
    }

    private static void doneTillThenStays() {
        sentence("3 COMPLETION", "What was done of the treating till then stays (of a REDUCING nothing; a RULE that was made is LIVE).");
        // In (b): the RIGHT of RULE 0 is new, that of RULE 1 is as it was, that of RULE 2 not come to; no PAIR of (c).
        String h = times("h", 16);
        Counted x = system("abcdefgh;ggg=ef;" + h + "=" + STEPS_1001 + ";hgh=ef;" + COUNTER + "gef=;ef=af;");
        due("complete(7)", x.complete(7), 0);
        int before = x.count(3);
        due("complete(1)", x.complete(1), 2);
        dueRule(x, 0, "ggg>af");
        dueRule(x, 1, h + ">" + STEPS_1001);
        dueRule(x, 2, "hgh>ef");
        dueRule(x, 7, "ef>af");
        dueLive(x, 1, 1, 1, 1, 1, 1, 0, 1, BAD);
        due("count(7)", x.count(7), 1);
        due("count(3): one went out, one came by (a)", x.count(3), before);
        // In (a): the new RULE is LIVE, and what it stands in is LIVE still from where it got STUCK on.
        x = nested();
        dueCounts(x, 2, 39, 19, 1000, NESTED_PAIRS, 0, 1, 250);
        due("rule(38, 0)", x.rule(38, 0), 1);
        due("rule(9, 0)", x.rule(9, 0), 1);
        // In (c): the PAIRS that came stay.
        x = system("ab;ba=bb;");
        due("complete(359)", x.complete(359), 0);
        due("count(3)", x.count(3) < 1000 ? 1 : 0, 1);
        due("complete(1)", x.complete(1), 2);
        dueCounts(x, 2, 37, 37, 1000, 360);
        due("rule(36, 0)", x.rule(36, 0), 1);
    }

    private static void oneUnitOfFuelEach() {
        sentence("3 COMPLETION", "Treating is one unit of FUEL each.");
        Counted x = system("ab;baabb=;");
        due("complete(500)", x.complete(500), 0);
        due("count(4)", x.count(4), 500);
        due("complete(1)", x.complete(1), 0);
        due("count(4)", x.count(4), 501);
        // PAIRS of like FORMS, too.
        x = system("ab;" + times("=;", 40));
        due("complete(39)", x.complete(39), 0);
        due("count(4)", x.count(4), 39);
        due("complete(1)", x.complete(1), 1);
        due("count(4)", x.count(4), 40);
    }

    // ---- promises 6 to 12

    private static void fuelIs1To500() {
        sentence("promise 6", "Up to so many PAIRS (1 .. 500) are treated: 1 it is COMPLETE, 0 not yet, 2 it is STUCK. BAD.");
        Counted x = system("ab;aa=;bb=;");
        for (int fuel : new int[] {0, -1, 501, LEAST, MOST}) due("complete(" + fuel + ")", x.complete(fuel), BAD);
        dueCounts(x, 2, 0, 0, 2, 0, 0, 0, 0);
        due("complete(1)", x.complete(1), 0);
        due("complete(500)", x.complete(500), 1);
        dueCounts(x, 2, 2, 2, 0, 4, 1, 0, 0);
        due("complete(1), COMPLETE", x.complete(1), 1);
        due("complete(501), COMPLETE", x.complete(501), BAD);
        due("count(4)", x.count(4), 4);
        x = nested();
        due("complete(0), STUCK", x.complete(0), BAD);
        due("complete(1), STUCK", x.complete(1), 2);
    }

    private static void countsOfLettersRulesAndPairs() {
        sentence("promise 7", "How many: 0 LETTERS, 1 RULES made, 2 LIVE ones, 3 PAIRS WAITING");
        Counted x = system("abcde;cab=;ca=;b=a;");
        dueCounts(x, 5, 0, 0, 3);
        x.complete(1);
        dueCounts(x, 5, 1, 1, 2);
        // RULE 0 is dropped and waits as a PAIR.
        x.complete(1);
        dueCounts(x, 5, 2, 1, 2);
        x.complete(1);
        dueCounts(x, 5, 3, 2, 1);
        // cab and the empty word: a>, which drops ca>; then ca and the empty word: c>.
        x.complete(1);
        dueCounts(x, 5, 4, 2, 1);
        x.complete(1);
        dueCounts(x, 5, 5, 3, 0);
    }

    private static void counts() {
        sentence("promise 7", "5 whether it is COMPLETE (1, 0), 6 STUCK (1, 0), 7 STEPS of all REDUCINGS of the completion that were not TOO LONG. BAD.");
        Counted x = system("ab;aa=;bbb=;abab=;");
        for (int what : new int[] {-1, 8, LEAST, MOST}) due("count(" + what + ")", x.count(what), BAD);
        dueCounts(x, 2, 0, 0, 3, 0, 0, 0, 0);
        x.complete(500);
        dueCounts(x, 2, 7, 6, 0, 33, 1, 0, 41);
        for (int what : new int[] {-1, 8}) due("count(" + what + ")", x.count(what), BAD);
    }

    private static void treatedWithTheStuckOne() {
        sentence("promise 7", "4 PAIRS treated since the system began (one in which it got STUCK, too)");
        Counted x = nested();
        due("count(4)", x.count(4), NESTED_PAIRS);
        readText(x, "ab;a=b;b=;");
        due("count(4) of a new system", x.count(4), 0);
        x.complete(1);
        due("count(4)", x.count(4), 1);
    }

    private static void stepsThatWereNotTooLong() {
        sentence("promise 7", "7 STEPS of all REDUCINGS of the completion that were not TOO LONG");
        Counted x = system("abcdefg;" + COUNTER + "ef=af;efg=" + STEPS_1000 + ";" + STEPS_1001 + "=;");
        due("complete(6)", x.complete(6), 2);
        due("count(7)", x.count(7), 1001);
        // Other REDUCINGS are none of the completion.
        wordText(x, 0, "ef");
        due("reduce(0)", x.reduce(0), 1);
        wordText(x, 0, "ef");
        x.same(0, 1);
        x.open();
        due("count(7)", x.count(7), 1001);
        x = completed("ab;bb=;");
        wordText(x, 0, "bbbb");
        x.number(0);
        x.product(2, 2);
        x.power(2, 0);
        x.inverse(2);
        x.commutes();
        due("count(7)", x.count(7), 0);
    }

    private static void rulesThatThereAre() {
        sentence("promise 8", "Of a RULE: 0 whether it is LIVE (1, 0), 1 how long its LEFT is, 2 its RIGHT");
        Counted x = completed("ab;bba=ab;");
        int made = x.count(1);
        for (int rule : new int[] {-1, made, 199, 200, LEAST, MOST}) {
            for (int what = 0; what < 3; what++) due("rule(" + rule + ", " + what + ")", x.rule(rule, what), BAD);
        }
        for (int what : new int[] {-1, 3, LEAST, MOST}) due("rule(0, " + what + ")", x.rule(0, what), BAD);
        due("rule(0, 0)", x.rule(0, 0), 1);
        due("rule(0, 1)", x.rule(0, 1), 3);
        due("rule(0, 2)", x.rule(0, 2), 2);
        due("no RULE at all", new Counted().rule(0, 0), BAD);
    }

    private static void droppedRulesAsTheyWere() {
        sentence("promise 8", "of a dropped one as it was then");
        Counted x = dropping();
        x.complete(500);
        due("rule(0, 0)", x.rule(0, 0), 0);
        due("rule(0, 1)", x.rule(0, 1), 4);
        due("rule(0, 2)", x.rule(0, 2), 2);
        dueRule(x, 0, "cbac>ab");
    }

    private static void lettersOfRules() {
        sentence("promise 9", "Letter i of a RULE's LEFT (side 0), RIGHT (1); NONE. BAD.");
        Counted x = completed("ab;bba=ab;a=;");
        dueRule(x, 0, "bba>ab");
        for (int i : new int[] {3, 60, -1, LEAST, MOST}) due("ruleLetter(0, 0, " + i + ")", x.ruleLetter(0, 0, i), NONE);
        for (int i : new int[] {2, 60, -1, LEAST, MOST}) due("ruleLetter(0, 1, " + i + ")", x.ruleLetter(0, 1, i), NONE);
        due("an empty RIGHT", x.ruleLetter(1, 1, 0), NONE);
        for (int side : new int[] {-1, 2, LEAST, MOST}) due("ruleLetter(0, " + side + ", 0)", x.ruleLetter(0, side, 0), BAD);
        for (int rule : new int[] {-1, x.count(1), 200, LEAST, MOST}) due("ruleLetter(" + rule + ", 0, 0)", x.ruleLetter(rule, 0, 0), BAD);
        due("BAD ahead of NONE", x.ruleLetter(0, 2, 9), BAD);
    }

    private static void lettersOfPairs() {
        sentence("promise 10", "Letter i of the k-th PAIR WAITING (0 the first), its one word (side 0), the other (1); NONE. BAD.");
        Counted x = system("ab;bba=;=ab;");
        duePairs(x, "bba=", "=ab");
        for (int i : new int[] {3, 120, -1, LEAST, MOST}) due("waiting(0, 0, " + i + ")", x.waiting(0, 0, i), NONE);
        due("an empty word", x.waiting(0, 1, 0), NONE);
        for (int side : new int[] {-1, 2, LEAST, MOST}) due("waiting(0, " + side + ", 0)", x.waiting(0, side, 0), BAD);
        for (int k : new int[] {-1, 2, 1000, LEAST, MOST}) due("waiting(" + k + ", 0, 0)", x.waiting(k, 0, 0), BAD);
        due("BAD ahead of NONE", x.waiting(2, 0, 9), BAD);
        x.complete(1);
        duePair(x, 0, "=ab");
        due("waiting(0, 1, 1)", x.waiting(0, 1, 1), 1);
        x.complete(500);
        due("nothing WAITING", x.waiting(0, 0, 0), BAD);
    }

    /** More PAIRS than 1000 go through the row: each comes out as the document tells it. */
    private static void rowGoesRound() {
        sentence("3 COMPLETION", "the first of the row goes out");
        NaiveMonoid y = new NaiveMonoid();
        for (int i = 0; i < MANY_RULES.length(); i++) y.feed(MANY_RULES.charAt(i), 1);
        y.read();
        Counted x = system(MANY_RULES);
        int[] fuels = {500, 250, 260, 490};
        for (int fuel : fuels) {
            due("complete(" + fuel + ")", x.complete(fuel), y.complete(fuel));
            due("count(3)", x.count(3), y.count(3));
            // The 1000th and the 1001st PAIR that ever came, where they wait.
            for (int k : new int[] {0, 999 - y.count(4), 1000 - y.count(4), y.count(3) - 1}) {
                for (int i = 0; i < 8; i++) {
                    due("waiting(" + k + ", 0, " + i + ")", x.waiting(k, 0, i), y.waiting(k, 0, i));
                    due("waiting(" + k + ", 1, " + i + ")", x.waiting(k, 1, i), y.waiting(k, 1, i));
                }
            }
        }
    }

    private static void openInOrder() {
        sentence("promise 11", "by the first one's number, the second one's, how many letters they share (as in (c); a RULE with itself, too): "
            + "1, and overlap() tells it");
        Counted x = system("ab;bb=aa;");
        x.complete(1);
        due("open(), a RULE with itself", x.open(), 1);
        dueOverlap(x, 0, 0, 1);
        // With one letter shared they are unlike, with two as well.
        x = system("ab;aaa=b;");
        x.complete(1);
        due("open()", x.open(), 1);
        dueOverlap(x, 0, 0, 1);
        // With one letter shared the FORMS are alike, with two they are not.
        x = system("ab;aabaa=a;");
        x.complete(1);
        due("open()", x.open(), 1);
        dueOverlap(x, 0, 0, 2);
        // The end of RULE 1 is the beginning of RULE 0, not the other way round.
        x = system("abc;ba=ab;cb=c;");
        x.complete(2);
        due("open()", x.open(), 1);
        dueOverlap(x, 1, 0, 1);
        // RULE 0 with RULE 2 goes ahead of RULE 1 with RULE 0.
        x = system("abcd;ab=;ca=d;bd=c;");
        x.complete(3);
        due("open()", x.open(), 1);
        dueOverlap(x, 0, 2, 1);
        // RULE 0 with RULE 1 goes ahead of RULE 0 with RULE 2.
        x = system("abcd;ab=;bc=d;bd=c;");
        x.complete(3);
        due("open()", x.open(), 1);
        dueOverlap(x, 0, 1, 1);
    }

    private static void openFindsNone() {
        sentence("promise 11", "0: there is none.");
        due("open() of a new object", new Counted().open(), 0);
        Counted x = system("ab;bb=aa;");
        due("open() without RULES", x.open(), 0);
        x = system("ab;aa=;bb=;");
        x.complete(2);
        due("open(), FORMS alike", x.open(), 0);
        x = completed("ab;aa=;bbb=;abab=;");
        due("open(), COMPLETE", x.open(), 0);
    }

    private static void openWhereALeftIsDropped() {
        sentence("promise 11", "The first overlap of LIVE RULES whose two words have unlike FORMS");
        Counted x = system("ab;bab=a;b=;");
        x.complete(1);
        due("open()", x.open(), 1);
        x.complete(1);
        dueLive(x, 0, 1);
        due("open()", x.open(), 0);
        // RULE 0 is dropped; its overlap with RULE 1, which is LIVE, would be open.
        for (String text : new String[] {"abc;aba=c;ab=;", "abc;bab=c;ab=;"}) {
            x = system(text);
            x.complete(2);
            dueLive(x, 0, 1);
            due("open() of " + text, x.open(), 0);
        }
    }

    /** The one overlap is of g..gh with hf: it wants as many STEPS as the word that f ends. */
    private static Counted oneOverlap(String word) {
        String right = word.substring(0, word.length() - 1);
        Counted x = system("abcdefgh;" + COUNTER + "ef=af;" + times("g", right.length()) + "h=" + right + ";hf=a;");
        due("complete(6)", x.complete(6), 0);
        return x;
    }

    private static void openUpTo1000Steps() {
        sentence("promise 11", "FULL: a REDUCING was TOO LONG ahead of one.");
        Counted x = oneOverlap("bcccccbccef");
        due("open(), 1000 STEPS", x.open(), 1);
        dueOverlap(x, 4, 5, 1);
        x = oneOverlap("bbcccccbccef");
        due("open(), 1001 STEPS", x.open(), FULL);
        dueOverlap(x, NONE, NONE, NONE);
        due("complete(1)", x.complete(1), 2);
        due("open(), STUCK", x.open(), FULL);
    }

    private static void openIsFullAheadOfOne() {
        sentence("promise 11", "FULL: a REDUCING was TOO LONG ahead of one.");
        String tooLong = times("g", 12) + "h=" + times("c", 10) + "e;hf=a;";
        // gg with itself is open, and its number is less.
        Counted x = system("abcdefgh;gg=b;" + COUNTER + "ef=af;" + tooLong);
        x.complete(7);
        due("open(), one ahead of TOO LONG", x.open(), 1);
        dueOverlap(x, 0, 0, 1);
        // g..gh with hh is open, but behind TOO LONG, which is g..gh with hf.
        x = system("abcdefgh;" + COUNTER + "ef=af;" + tooLong + "hh=a;");
        x.complete(7);
        due("open(), one behind TOO LONG", x.open(), FULL);
        dueOverlap(x, NONE, NONE, NONE);
    }

    private static void overlapIsOfTheLatestThatFound() {
        sentence("promise 12", "Of what the latest open() of this system that answered 1 found");
        Counted x = system("ab;aa=;bbb=;abab=;");
        x.complete(3);
        due("overlap(0) without open()", x.overlap(0), NONE);
        due("open()", x.open(), 1);
        dueOverlap(x, 0, 2, 1);
        due("open() again", x.open(), 1);
        dueOverlap(x, 0, 2, 1);
        x.complete(500);
        due("open()", x.open(), 0);
        dueOverlap(x, 0, 2, 1);
        // A later one that answers 1 is told instead.
        x = system("abcd;ab=;dd=c;bc=d;");
        x.complete(2);
        due("open()", x.open(), 1);
        dueOverlap(x, 1, 1, 1);
        x.complete(1);
        dueOverlap(x, 1, 1, 1);
        due("open()", x.open(), 1);
        dueOverlap(x, 0, 2, 1);
    }

    private static void overlapIsOfThisSystem() {
        sentence("promise 12", "Of what the latest open() of this system that answered 1 found");
        Counted x = system("ab;bb=aa;");
        x.complete(1);
        due("open()", x.open(), 1);
        readText(x, "ab;bb=ca;");
        dueOverlap(x, 0, 0, 1);
        readText(x, "ab;bb=aa;");
        dueOverlap(x, NONE, NONE, NONE);
        due("open()", x.open(), 0);
        dueOverlap(x, NONE, NONE, NONE);
        x.complete(1);
        dueOverlap(x, NONE, NONE, NONE);
        due("open()", x.open(), 1);
        dueOverlap(x, 0, 0, 1);
    }

    private static void overlapRefuses() {
        sentence("promise 12", "0 the first RULE, 1 the second, 2 how many letters; NONE. BAD.");
        Counted x = system("ab;bb=aa;");
        for (int what : new int[] {-1, 3, LEAST, MOST}) due("overlap(" + what + ")", x.overlap(what), BAD);
        dueOverlap(x, NONE, NONE, NONE);
        x.complete(1);
        x.open();
        for (int what : new int[] {-1, 3, LEAST, MOST}) due("overlap(" + what + ")", x.overlap(what), BAD);
        dueOverlap(x, 0, 0, 1);
    }
}
