/** The boundary cases of promises 7 to 14: say, said, kind, weight, has, left, plainest, judge. */
public final class Promise07to14EdgeTest {
    private static final int LEAST = Integer.MIN_VALUE;
    private static final int GREATEST = Integer.MAX_VALUE;

    public static void main(String[] args) {
        Edge.runAll(Promise07to14EdgeTest.class, 7, 14);
    }

    // Promise 7: A WORD was SAID in a SCENE, or not: 1; 0 it was so. -1.

    static void p07_aWordIsSaid(Due due) {
        due.is("say", Due.of("a").say(0, 0, true), 1);
    }

    static void p07_whatWasSaidIsSaidOnce(Due due) {
        WhichWord x = Due.of("a");
        x.say(0, 0, true);
        due.is("it was so", x.say(0, 0, true), 0);
        due.is("said", x.said(0), 1);
        due.is("once taken off", x.say(0, 0, false), 1);
        due.is("it is off", x.said(0), 0);
    }

    static void p07_whatWasNotSaidWasSo(Due due) {
        WhichWord x = Due.of("a");
        due.is("not said", x.say(0, 0, false), 0);
        due.is("said", x.said(0), 0);
    }

    static void p07_whatIsNoMoreSaidWasSoThen(Due due) {
        WhichWord x = Due.of("a");
        x.say(0, 0, true);
        x.say(0, 0, false);
        due.is("again", x.say(0, 0, false), 0);
    }

    static void p07_allSixWordsInOneScene(Due due) {
        WhichWord x = Due.of("a");
        for (int word = 0; word < 6; word++) {
            due.is("say " + word, x.say(0, word, true), 1);
        }
        due.is("SAID", x.count(3), 6);
        due.is("one is taken off", x.say(0, 3, false), 1);
        due.is("the others stay", x.count(3), 5);
    }

    static void p07_inTheLastSceneThereCanBe(Due due) {
        WhichWord x = Refused.full();
        due.is("say", x.say(23, 5, true), 1);
        due.is("said", x.said(5), 1);
        due.is("in it", x.judge(5, 0), 23);
    }

    static void p07_itWasSoIsNoRefusal(Due due) {
        WhichWord x = Due.of("a");
        x.say(0, 0, false);
        for (int what = 11; what <= 16; what++) {
            due.is("count(" + what + ")", x.count(what), 0);
        }
    }

    static void p07_theSceneBehindTheLastIsNobody(Due due) {
        Refused.is(due, -1, x -> x.say(3, 0, true));
    }

    static void p07_sceneMinusOneIsNobody(Due due) {
        Refused.is(due, -1, x -> x.say(-1, 0, true));
    }

    static void p07_sceneTwentyFourIsNobody(Due due) {
        Refused.is(due, Refused::full, -1, x -> x.say(24, 0, true));
    }

    static void p07_sceneThirtyTwoIsNotSceneZero(Due due) {
        Refused.is(due, -1, x -> x.say(32, 4, true));
        Refused.is(due, -1, x -> x.say(-32, 4, true));
    }

    static void p07_sceneOfTheLeastOrGreatestIntIsNobody(Due due) {
        Refused.is(due, -1, x -> x.say(LEAST, 0, false));
        Refused.is(due, -1, x -> x.say(GREATEST, 0, false));
    }

    static void p07_wordSixIsNobody(Due due) {
        Refused.is(due, -1, x -> x.say(0, 6, true));
    }

    static void p07_wordMinusOneIsNobody(Due due) {
        Refused.is(due, -1, x -> x.say(0, -1, true));
    }

    static void p07_wordOfTheLeastOrGreatestIntIsNobody(Due due) {
        Refused.is(due, -1, x -> x.say(0, LEAST, true));
        Refused.is(due, -1, x -> x.say(0, GREATEST, true));
    }

    static void p07_neitherSceneNorWordIsCountedOnce(Due due) {
        Refused.is(due, -1, x -> x.say(3, 6, true));
    }

    static void p07_nobodyIsRefusedForNotSaidToo(Due due) {
        Refused.is(due, -1, x -> x.say(3, 0, false));
        Refused.is(due, -1, x -> x.say(0, 6, false));
    }

    // Promise 8: In how many SCENES a WORD was SAID. -1.

    static void p08_inNoScene(Due due) {
        due.is("no SCENE", new WhichWord().said(0), 0);
        due.is("SCENES", Due.of("a", "b").said(5), 0);
    }

    static void p08_inAllTwentyFour(Due due) {
        WhichWord x = Refused.full();
        for (int scene = 0; scene < 24; scene++) {
            x.say(scene, 5, true);
        }
        due.is("said", x.said(5), 24);
        due.is("another", x.said(0), 3);
    }

    static void p08_wordSixIsNobody(Due due) {
        Refused.is(due, -1, x -> x.said(6));
    }

    static void p08_wordMinusOneIsNobody(Due due) {
        Refused.is(due, -1, x -> x.said(-1));
    }

    static void p08_wordOfTheLeastOrGreatestIntIsNobody(Due due) {
        Refused.is(due, -1, x -> x.said(LEAST));
        Refused.is(due, -1, x -> x.said(GREATEST));
    }

    // Promise 9: KIND of a MEANING. -1.

    private static void kindIs(Due due, int kind, int first, int last) {
        WhichWord x = new WhichWord();
        due.is("kind(" + first + ")", x.kind(first), kind);
        due.is("kind(" + last + ")", x.kind(last), kind);
    }

    static void p09_marksAre0To5(Due due) {
        kindIs(due, 0, 0, 5);
    }

    static void p09_joinedAre6To20(Due due) {
        kindIs(due, 1, 6, 20);
    }

    static void p09_countsAre21To38(Due due) {
        kindIs(due, 2, 21, 38);
    }

    static void p09_doingsAre39To41(Due due) {
        kindIs(due, 3, 39, 41);
    }

    static void p09_giversAre42To59(Due due) {
        kindIs(due, 4, 42, 59);
    }

    static void p09_takersAre60To77(Due due) {
        kindIs(due, 5, 60, 77);
    }

    static void p09_heresAre78To83(Due due) {
        kindIs(due, 6, 78, 83);
    }

    static void p09_awaysAre84To89(Due due) {
        kindIs(due, 7, 84, 89);
    }

    static void p09_meaningNinetyIsNobody(Due due) {
        Refused.is(due, -1, x -> x.kind(90));
    }

    static void p09_meaningMinusOneIsNobody(Due due) {
        Refused.is(due, -1, x -> x.kind(-1));
    }

    static void p09_meaningOfTheLeastOrGreatestIntIsNobody(Due due) {
        Refused.is(due, -1, x -> x.kind(LEAST));
        Refused.is(due, -1, x -> x.kind(GREATEST));
    }

    // Promise 10: WEIGHT of a KIND: what it was. -1; -4; -6.

    static void p10_oneIsTheLeastWeight(Due due) {
        WhichWord x = new WhichWord();
        due.is("what it was", x.weight(0, 1), 10);
        due.is("it is 1", x.weight(0, 50), 1);
    }

    static void p10_ninetyNineIsTheGreatest(Due due) {
        WhichWord x = new WhichWord();
        due.is("what it was", x.weight(0, 99), 10);
        due.is("it is 99", x.weight(0, 50), 99);
    }

    static void p10_theSameAgain(Due due) {
        WhichWord x = new WhichWord();
        due.is("10 for 10", x.weight(0, 10), 10);
        due.is("10 still", x.weight(0, 10), 10);
    }

    static void p10_theFirstKindAndTheLastHaveTheirOwn(Due due) {
        WhichWord x = new WhichWord();
        x.weight(0, 11);
        x.weight(7, 77);
        due.is("KIND 0", x.weight(0, 1), 11);
        due.is("KIND 7", x.weight(7, 1), 77);
        due.is("KIND 1", x.weight(1, 1), 10);
        due.is("KIND 6", x.weight(6, 1), 10);
    }

    static void p10_zeroIsBelow(Due due) {
        Refused.is(due, -4, x -> x.weight(0, 0));
    }

    static void p10_theLeastIntIsBelow(Due due) {
        Refused.is(due, -4, x -> x.weight(0, LEAST));
        Refused.is(due, -4, x -> x.weight(0, -1));
    }

    static void p10_aHundredIsTooMuch(Due due) {
        Refused.is(due, -6, x -> x.weight(0, 100));
    }

    static void p10_theGreatestIntIsTooMuch(Due due) {
        Refused.is(due, -6, x -> x.weight(0, GREATEST));
    }

    static void p10_kindEightIsNobody(Due due) {
        Refused.is(due, -1, x -> x.weight(8, 50));
    }

    static void p10_kindMinusOneIsNobody(Due due) {
        Refused.is(due, -1, x -> x.weight(-1, 50));
    }

    static void p10_kindOfTheLeastOrGreatestIntIsNobody(Due due) {
        Refused.is(due, -1, x -> x.weight(LEAST, 50));
        Refused.is(due, -1, x -> x.weight(GREATEST, 50));
    }

    static void p10_nobodyAheadOfBelow(Due due) {
        Refused.is(due, -1, x -> x.weight(8, 0));
    }

    static void p10_nobodyAheadOfRoom(Due due) {
        Refused.is(due, -1, x -> x.weight(-1, 100));
    }

    // Promise 11 and part II: Whether a SCENE HAS a MEANING: 1, 0. -1.

    private static void has(Due due, String text, int meaning, int answer) {
        due.is("has(0, " + meaning + ") of " + text, Due.of(text).has(0, meaning), answer);
    }

    static void p11_theFirstMarkAndTheLast(Due due) {
        has(due, "a", 0, 1);
        has(due, "a", 5, 0);
        has(due, "f", 5, 1);
        has(due, "f", 0, 0);
    }

    static void p11_someThingHasTheMarkBeItTheLast(Due due) {
        has(due, "a,a,a,f", 5, 1);
    }

    static void p11_joinedAreByMThenN(Due due) {
        String[] inOrder = {"ab", "ac", "ad", "ae", "af", "bc", "bd", "be", "bf", "cd", "ce", "cf", "de", "df", "ef"};
        for (int i = 0; i < inOrder.length; i++) {
            for (int meaning = 6; meaning <= 20; meaning++) {
                has(due, inOrder[i], meaning, meaning == 6 + i ? 1 : 0);
            }
        }
    }

    static void p11_joinedMustBeInOneThing(Due due) {
        has(due, "a,b", 6, 0);
        has(due, "ac,bc", 6, 0);
        has(due, "a,b,c,abc", 6, 1);
    }

    static void p11_countsAreByMThenK(Due due) {
        has(due, "a,a", 21, 1);
        has(due, "a,a,a", 22, 1);
        has(due, "a,a,a,a", 23, 1);
        has(due, "b,b", 24, 1);
        has(due, "f,f", 36, 1);
        has(due, "f,f,f,f", 38, 1);
    }

    static void p11_oneThingIsNoCount(Due due) {
        has(due, "a,b", 21, 0);
        has(due, "a,b", 22, 0);
        has(due, "a,b", 23, 0);
    }

    static void p11_countIsJustSoMany(Due due) {
        has(due, "a,a,a", 21, 0);
        has(due, "a,a,a", 23, 0);
        has(due, "a,a", 22, 0);
        has(due, "a,a,a,a", 22, 0);
        has(due, "a,a,a,a", 21, 0);
    }

    static void p11_countTakesHereAndAwayAndOtherMarks(Due due) {
        has(due, "ab*,a", 21, 1);
    }

    static void p11_theFirstDoingAndTheLast(Due due) {
        has(due, "a,b;0x1", 39, 1);
        has(due, "a,b;0x1", 40, 0);
        has(due, "a,b;0z1", 41, 1);
        has(due, "a,b;0z1", 40, 0);
        has(due, "a,b", 39, 0);
    }

    static void p11_itIsDoneWhateverMarksTheThingsHave(Due due) {
        has(due, "b,c;0x1", 39, 1);
        has(due, "e*,f*;1z0", 41, 1);
    }

    static void p11_itIsDoneBeItLast(Due due) {
        has(due, "a,b;0x1,0x1,0z1", 41, 1);
    }

    static void p11_giversAreByVThenM(Due due) {
        has(due, "a,b;0x1", 42, 1);
        has(due, "f,b;0x1", 47, 1);
        has(due, "f,b;0x1", 48, 0);
        has(due, "a,b;0y1", 48, 1);
        has(due, "a,b;0y1", 47, 0);
        has(due, "f,b;0z1", 59, 1);
    }

    static void p11_theGiverIsNotTheTaker(Due due) {
        has(due, "a,b;0x1", 43, 0);
        has(due, "a,b;0x1", 60, 0);
    }

    static void p11_theGiverHasTheMarkInTheSameDoing(Due due) {
        has(due, "a,b,c;0x1,2y1", 44, 0);
        has(due, "a,b,c;0x1,2y1", 48, 0);
        has(due, "a,b,c;0x1,2y1", 50, 1);
    }

    static void p11_takersAreByVThenM(Due due) {
        has(due, "b,a;0x1", 60, 1);
        has(due, "b,f;0x1", 65, 1);
        has(due, "b,f;0x1", 66, 0);
        has(due, "b,a;0y1", 66, 1);
        has(due, "b,a;0y1", 65, 0);
        has(due, "b,f;0z1", 77, 1);
    }

    static void p11_theTakerHasTheMarkInTheSameDoing(Due due) {
        has(due, "a,b,c;0x1,0y2", 62, 0);
        has(due, "a,b,c;0x1,0y2", 67, 0);
        has(due, "a,b,c;0x1,0y2", 68, 1);
    }

    static void p11_theFirstHereAndTheLast(Due due) {
        has(due, "a*", 78, 1);
        has(due, "a*", 83, 0);
        has(due, "f*", 83, 1);
        has(due, "f*", 78, 0);
    }

    static void p11_theFirstAwayAndTheLast(Due due) {
        has(due, "a", 84, 1);
        has(due, "a", 89, 0);
        has(due, "f", 89, 1);
        has(due, "f", 84, 0);
    }

    static void p11_hereIsNotAway(Due due) {
        has(due, "a*", 84, 0);
        has(due, "a", 78, 0);
    }

    static void p11_oneHereAndAnotherAwayIsBoth(Due due) {
        has(due, "a,a*", 78, 1);
        has(due, "a,a*", 84, 1);
    }

    static void p11_theThingThatIsHereMustHaveTheMark(Due due) {
        has(due, "a,b*", 78, 0);
        has(due, "a,b*", 85, 0);
    }

    static void p11_ofTheLastSceneThereCanBe(Due due) {
        WhichWord x = Refused.full();
        due.is("b* of 23", x.has(23, 79), 1);
        due.is("no b* of 22", x.has(22, 79), 0);
    }

    static void p11_theSceneBehindTheLastIsNobody(Due due) {
        Refused.is(due, -1, x -> x.has(3, 0));
        Refused.is(due, Refused::full, -1, x -> x.has(24, 0));
    }

    static void p11_sceneMinusOneIsNobody(Due due) {
        Refused.is(due, -1, x -> x.has(-1, 0));
    }

    static void p11_sceneOfTheLeastOrGreatestIntIsNobody(Due due) {
        Refused.is(due, -1, x -> x.has(LEAST, 0));
        Refused.is(due, -1, x -> x.has(GREATEST, 0));
    }

    static void p11_meaningNinetyIsNobody(Due due) {
        Refused.is(due, -1, x -> x.has(0, 90));
    }

    static void p11_meaningMinusOneIsNobody(Due due) {
        Refused.is(due, -1, x -> x.has(0, -1));
    }

    static void p11_meaningOfTheLeastOrGreatestIntIsNobody(Due due) {
        Refused.is(due, -1, x -> x.has(0, LEAST));
        Refused.is(due, -1, x -> x.has(0, GREATEST));
    }

    // Promise 12: How many MEANINGS are LEFT for a WORD (i -1), the i-th; -9 none such.
    // -1; -4 (SLIPS, i below -1); -6 SLIPS above 3.

    /** WORD 0 was SAID in "a", "a*"; WORD 1 in "b" too; WORD 2 in "c" too; WORD 3 in "d" too; 4 and 5 never. */
    private static WhichWord saidInSome() {
        WhichWord x = Due.of("a", "a*", "b", "c", "d");
        Due.sayIn(x, 0, 0, 1);
        Due.sayIn(x, 1, 0, 1, 2);
        Due.sayIn(x, 2, 0, 1, 2, 3);
        Due.sayIn(x, 3, 0, 1, 2, 3, 4);
        return x;
    }

    static void p12_allAreLeftOfAWordThatWasNeverSaid(Due due) {
        WhichWord x = saidInSome();
        due.is("how many", x.left(5, 0, -1), 90);
        due.is("the first", x.left(5, 0, 0), 0);
        due.is("the last", x.left(5, 0, 89), 89);
        due.is("none behind it", x.left(5, 0, 90), -9);
    }

    static void p12_noneIsLeft(Due due) {
        WhichWord x = saidInSome();
        due.is("how many", x.left(1, 0, -1), 0);
        due.is("the first", x.left(1, 0, 0), -9);
    }

    static void p12_theIthIsInOrder(Due due) {
        WhichWord x = saidInSome();
        due.is("how many", x.left(0, 1, -1), 3);
        due.is("MARK a", x.left(0, 1, 0), 0);
        due.is("HERE a", x.left(0, 1, 1), 78);
        due.is("AWAY a", x.left(0, 1, 2), 84);
        due.is("none behind", x.left(0, 1, 3), -9);
    }

    static void p12_noneSuchOfTheGreatestInt(Due due) {
        due.is("left", saidInSome().left(0, 0, GREATEST), -9);
    }

    static void p12_noneSuchIsNoRefusal(Due due) {
        WhichWord x = saidInSome();
        x.left(0, 0, 1);
        x.left(1, 0, 0);
        for (int what = 11; what <= 16; what++) {
            due.is("count(" + what + ")", x.count(what), 0);
        }
    }

    static void p12_noSlipIsAllowedWithZero(Due due) {
        WhichWord x = saidInSome();
        due.is("of WORD 0", x.left(0, 0, -1), 1);
        due.is("MARK a", x.left(0, 0, 0), 0);
    }

    static void p12_justSoManySlipsAreLeftOneMoreIsNot(Due due) {
        WhichWord x = saidInSome();
        due.is("one SCENE is without a", x.left(1, 1, -1), 1);
        due.is("two are, one SLIP", x.left(2, 1, -1), 0);
        due.is("two are, two SLIPS", x.left(2, 2, -1), 1);
        due.is("three are, two SLIPS", x.left(3, 2, -1), 0);
        due.is("three are, three SLIPS", x.left(3, 3, -1), 1);
    }

    static void p12_asManySlipsAsScenesLeaveAll(Due due) {
        WhichWord x = saidInSome();
        due.is("two", x.left(0, 2, -1), 90);
        due.is("three", x.left(1, 3, -1), 90);
        due.is("more than there are", x.left(0, 3, -1), 90);
        due.is("the last of all", x.left(0, 3, 89), 89);
    }

    static void p12_whatIsNoMoreSaidLeavesMore(Due due) {
        WhichWord x = saidInSome();
        x.say(2, 1, false);
        due.is("left", x.left(1, 0, -1), 1);
    }

    static void p12_iMinusTwoIsBelow(Due due) {
        Refused.is(due, -4, x -> x.left(0, 0, -2));
    }

    static void p12_iOfTheLeastIntIsBelow(Due due) {
        Refused.is(due, -4, x -> x.left(0, 0, LEAST));
    }

    static void p12_slipsMinusOneAreBelow(Due due) {
        Refused.is(due, -4, x -> x.left(0, -1, 0));
    }

    static void p12_slipsOfTheLeastIntAreBelow(Due due) {
        Refused.is(due, -4, x -> x.left(0, LEAST, -1));
    }

    static void p12_fourSlipsAreTooMany(Due due) {
        Refused.is(due, -6, x -> x.left(0, 4, -1));
    }

    static void p12_slipsOfTheGreatestIntAreTooMany(Due due) {
        Refused.is(due, -6, x -> x.left(0, GREATEST, 0));
    }

    static void p12_belowAheadOfRoom(Due due) {
        Refused.is(due, -4, x -> x.left(0, 4, -2));
    }

    static void p12_wordSixIsNobody(Due due) {
        Refused.is(due, -1, x -> x.left(6, 0, -1));
    }

    static void p12_wordMinusOneIsNobody(Due due) {
        Refused.is(due, -1, x -> x.left(-1, 0, -1));
    }

    static void p12_wordOfTheLeastOrGreatestIntIsNobody(Due due) {
        Refused.is(due, -1, x -> x.left(LEAST, 0, -1));
        Refused.is(due, -1, x -> x.left(GREATEST, 0, -1));
    }

    static void p12_nobodyAheadOfBelow(Due due) {
        Refused.is(due, -1, x -> x.left(6, -1, -2));
    }

    static void p12_nobodyAheadOfRoom(Due due) {
        Refused.is(due, -1, x -> x.left(6, 4, 0));
    }

    // Promise 13: PLAINEST; -9 none is LEFT. -1; -4; -6.

    static void p13_ofEqualWeightsTheLeast(Due due) {
        WhichWord x = saidInSome();
        due.is("of 0, 78, 84", x.plainest(0, 1), 0);
        due.is("of all", x.plainest(5, 0), 0);
    }

    static void p13_theGreatestWeightBeItTheLastKind(Due due) {
        WhichWord x = saidInSome();
        x.weight(7, 11);
        due.is("AWAY a", x.plainest(0, 1), 84);
        due.is("of all", x.plainest(5, 0), 84);
    }

    static void p13_twoKindsOfTheGreatestWeightTheLeast(Due due) {
        WhichWord x = saidInSome();
        x.weight(7, 99);
        x.weight(6, 99);
        due.is("HERE a", x.plainest(0, 1), 78);
    }

    static void p13_ofTheLeastWeight(Due due) {
        WhichWord x = saidInSome();
        for (int kind = 0; kind < 8; kind++) {
            x.weight(kind, 1);
        }
        due.is("MARK a", x.plainest(0, 0), 0);
    }

    static void p13_theHeaviestThatIsNotLeftIsNotIt(Due due) {
        WhichWord x = saidInSome();
        x.weight(3, 99);
        due.is("MARK a", x.plainest(0, 0), 0);
    }

    static void p13_noneIsLeft(Due due) {
        WhichWord x = saidInSome();
        due.is("plainest", x.plainest(1, 0), -9);
        due.is("with two SLIPS", x.plainest(3, 2), -9);
        due.is("with three", x.plainest(3, 3), 0);
        for (int what = 11; what <= 16; what++) {
            due.is("it is no refusal", x.count(what), 0);
        }
    }

    static void p13_slipsMinusOneAreBelow(Due due) {
        Refused.is(due, -4, x -> x.plainest(0, -1));
        Refused.is(due, -4, x -> x.plainest(0, LEAST));
    }

    static void p13_fourSlipsAreTooMany(Due due) {
        Refused.is(due, -6, x -> x.plainest(0, 4));
        Refused.is(due, -6, x -> x.plainest(0, GREATEST));
    }

    static void p13_wordSixIsNobody(Due due) {
        Refused.is(due, -1, x -> x.plainest(6, 0));
    }

    static void p13_wordMinusOneIsNobody(Due due) {
        Refused.is(due, -1, x -> x.plainest(-1, 0));
    }

    static void p13_wordOfTheLeastOrGreatestIntIsNobody(Due due) {
        Refused.is(due, -1, x -> x.plainest(LEAST, 0));
        Refused.is(due, -1, x -> x.plainest(GREATEST, 0));
    }

    static void p13_nobodyAheadOfBelow(Due due) {
        Refused.is(due, -1, x -> x.plainest(6, -1));
    }

    static void p13_nobodyAheadOfRoom(Due due) {
        Refused.is(due, -1, x -> x.plainest(6, 4));
    }

    // Promise 14: The first SCENE in which a WORD was SAID that has not a MEANING; -9. -1.

    static void p14_allHaveIt(Due due) {
        due.is("judge", saidInSome().judge(0, 0), -9);
    }

    static void p14_neverSaid(Due due) {
        due.is("judge", saidInSome().judge(5, 0), -9);
        due.is("no SCENE", new WhichWord().judge(0, 0), -9);
    }

    static void p14_theFirstOfSeveral(Due due) {
        WhichWord x = saidInSome();
        due.is("MARK a", x.judge(3, 0), 2);
        due.is("MARK f", x.judge(3, 5), 0);
    }

    static void p14_aSceneInWhichItWasNotSaidIsPassed(Due due) {
        WhichWord x = saidInSome();
        x.say(0, 3, false);
        due.is("MARK f", x.judge(3, 5), 1);
    }

    static void p14_theLastSceneThereCanBe(Due due) {
        due.is("MARK a", Refused.full().judge(0, 0), 23);
    }

    static void p14_theFirstMeaningAndTheLast(Due due) {
        WhichWord x = Due.of("a", "f");
        Due.sayIn(x, 0, 0, 1);
        due.is("MARK a", x.judge(0, 0), 1);
        due.is("AWAY f", x.judge(0, 89), 0);
    }

    static void p14_noneIsNoRefusal(Due due) {
        WhichWord x = saidInSome();
        x.judge(0, 0);
        for (int what = 11; what <= 16; what++) {
            due.is("count(" + what + ")", x.count(what), 0);
        }
    }

    static void p14_wordSixIsNobody(Due due) {
        Refused.is(due, -1, x -> x.judge(6, 0));
    }

    static void p14_wordMinusOneIsNobody(Due due) {
        Refused.is(due, -1, x -> x.judge(-1, 0));
    }

    static void p14_wordOfTheLeastOrGreatestIntIsNobody(Due due) {
        Refused.is(due, -1, x -> x.judge(LEAST, 0));
        Refused.is(due, -1, x -> x.judge(GREATEST, 0));
    }

    static void p14_meaningNinetyIsNobody(Due due) {
        Refused.is(due, -1, x -> x.judge(0, 90));
    }

    static void p14_meaningMinusOneIsNobody(Due due) {
        Refused.is(due, -1, x -> x.judge(0, -1));
    }

    static void p14_meaningOfTheLeastOrGreatestIntIsNobody(Due due) {
        Refused.is(due, -1, x -> x.judge(0, LEAST));
        Refused.is(due, -1, x -> x.judge(0, GREATEST));
    }

    static void p14_neitherWordNorMeaningIsCountedOnce(Due due) {
        Refused.is(due, -1, x -> x.judge(6, 90));
    }
}
