/** The boundary cases of promises 19 to 24: givings, giving, two, give, saying, orders. */
public final class Promise19to24EdgeTest {
    private static final int LEAST = Integer.MIN_VALUE;
    private static final int GREATEST = Integer.MAX_VALUE;

    public static void main(String[] args) {
        Edge.runAll(Promise19to24EdgeTest.class, 19, 24);
    }

    // Promise 19 and part III: How many GIVINGS a set of WORDS (bits) has. -1 (not 1 to 3 of them).

    /** WORDS 0, 1 and 2 have MARK a and AWAY a LEFT, WORD 3 MARK a alone, WORD 4 nothing, WORD 5 all. */
    private static WhichWord shutOut() {
        WhichWord x = Due.of("a", "a*", "b");
        Due.sayIn(x, 0, 0);
        Due.sayIn(x, 1, 0);
        Due.sayIn(x, 2, 0);
        Due.sayIn(x, 3, 0, 1);
        Due.sayIn(x, 4, 0, 2);
        return x;
    }

    static void p19_oneWordIsTheLeast(Due due) {
        WhichWord x = shutOut();
        due.is("WORD 0", x.givings(1), 2);
        due.is("WORD 3", x.givings(8), 1);
        due.is("WORD 5", x.givings(32), 90);
    }

    static void p19_threeWordsAreTheMost(Due due) {
        due.is("90, 89, 88", new WhichWord().givings(7), 704880);
        due.is("the last three", new WhichWord().givings(56), 704880);
        due.is("not side by side", new WhichWord().givings(37), 704880);
    }

    static void p19_twoWordsMayNotHaveTheSame(Due due) {
        WhichWord x = shutOut();
        due.is("two of two", x.givings(3), 2);
        due.is("two of two and one", x.givings(9), 1);
        due.is("of two and ninety", x.givings(33), 178);
    }

    static void p19_threeWordsOfTwoMeaningsHaveNone(Due due) {
        due.is("givings", shutOut().givings(7), 0);
    }

    static void p19_aWordThatHasNoneLeftLeavesNone(Due due) {
        WhichWord x = shutOut();
        due.is("alone", x.givings(16), 0);
        due.is("with another", x.givings(48), 0);
        due.is("with two", x.givings(49), 0);
        due.is("none is no refusal", x.count(11), 0);
    }

    static void p19_noSlipsAreAllowed(Due due) {
        WhichWord x = shutOut();
        due.is("one SLIP would leave some", x.left(4, 1, -1), 4);
        due.is("givings", x.givings(16), 0);
    }

    static void p19_noWordIsNobody(Due due) {
        Refused.is(due, -1, x -> x.givings(0));
    }

    static void p19_fourWordsAreTooManyToGive(Due due) {
        Refused.is(due, -1, x -> x.givings(15));
        Refused.is(due, -1, x -> x.givings(60));
        Refused.is(due, -1, x -> x.givings(63));
    }

    static void p19_wordSixIsNobody(Due due) {
        Refused.is(due, -1, x -> x.givings(64));
        Refused.is(due, -1, x -> x.givings(65));
        Refused.is(due, -1, x -> x.givings(67));
    }

    static void p19_theHighestBitIsNobody(Due due) {
        Refused.is(due, -1, x -> x.givings(LEAST));
        Refused.is(due, -1, x -> x.givings(LEAST | 1));
    }

    static void p19_aSetBelowZeroIsNobody(Due due) {
        Refused.is(due, -1, x -> x.givings(-1));
        Refused.is(due, -1, x -> x.givings(GREATEST));
    }

    // Promise 20: The MEANING of a WORD in the first one; -9 there is none. -1 (a WORD not of the set, too).

    static void p20_ofOneWordTheLeastThatIsLeft(Due due) {
        WhichWord x = shutOut();
        due.is("WORD 0", x.giving(1, 0), 0);
        due.is("WORD 5", x.giving(32, 5), 0);
    }

    static void p20_theLaterWordTakesWhatTheEarlierLeft(Due due) {
        WhichWord x = shutOut();
        due.is("WORD 0", x.giving(3, 0), 0);
        due.is("WORD 1", x.giving(3, 1), 84);
    }

    static void p20_theEarlierWordLeavesTheLaterItsOnlyOne(Due due) {
        WhichWord x = shutOut();
        due.is("WORD 0", x.giving(9, 0), 84);
        due.is("WORD 3", x.giving(9, 3), 0);
    }

    static void p20_ofThreeTheFirstLeavesTheLastItsOnlyOne(Due due) {
        WhichWord x = shutOut();
        due.is("WORD 2", x.giving(44, 2), 84);
        due.is("WORD 3", x.giving(44, 3), 0);
        due.is("WORD 5", x.giving(44, 5), 1);
    }

    static void p20_threeOfAllMeanings(Due due) {
        WhichWord x = new WhichWord();
        due.is("WORD 3", x.giving(56, 3), 0);
        due.is("WORD 4", x.giving(56, 4), 1);
        due.is("WORD 5", x.giving(56, 5), 2);
    }

    static void p20_thereIsNone(Due due) {
        WhichWord x = shutOut();
        due.is("the first of three", x.giving(7, 0), -9);
        due.is("the second", x.giving(7, 1), -9);
        due.is("the third", x.giving(7, 2), -9);
        due.is("of none LEFT", x.giving(16, 4), -9);
        due.is("of ninety beside none", x.giving(48, 5), -9);
        due.is("none is no refusal", x.count(11), 0);
    }

    static void p20_aWordNotOfTheSetIsNobody(Due due) {
        Refused.is(due, -1, x -> x.giving(6, 0));
        Refused.is(due, -1, x -> x.giving(6, 3));
    }

    static void p20_wordSixIsNobody(Due due) {
        Refused.is(due, -1, x -> x.giving(1, 6));
        Refused.is(due, -1, x -> x.giving(64, 6));
    }

    static void p20_wordMinusOneIsNobody(Due due) {
        Refused.is(due, -1, x -> x.giving(1, -1));
    }

    static void p20_wordThirtyTwoIsNotWordZero(Due due) {
        Refused.is(due, -1, x -> x.giving(1, 32));
        Refused.is(due, -1, x -> x.giving(1, -32));
        Refused.is(due, -1, x -> x.giving(1, LEAST));
    }

    static void p20_noWordOrFourAreNobody(Due due) {
        Refused.is(due, -1, x -> x.giving(0, 0));
        Refused.is(due, -1, x -> x.giving(15, 0));
    }

    static void p20_aSetWithAWordThatIsNoneIsNobody(Due due) {
        Refused.is(due, -1, x -> x.giving(65, 0));
        Refused.is(due, -1, x -> x.giving(LEAST | 1, 0));
        Refused.is(due, -1, x -> x.giving(-1, 0));
    }

    // Promise 21: TWO: how many (what 0), the first as 100 a and b (1; -9 none). -1; -2.

    private static void twoIs(Due due, WhichWord x, int many, int first) {
        due.is("how many", x.two(0, 0), many);
        due.is("the first", x.two(0, 1), first);
    }

    static void p21_neverSaidNone(Due due) {
        twoIs(due, Due.of("a", "b"), 0, -9);
        twoIs(due, new WhichWord(), 0, -9);
    }

    static void p21_inOneSceneEachIsLeftAlone(Due due) {
        WhichWord x = Due.of("a,b;0x1");
        Due.sayIn(x, 0, 0);
        twoIs(due, x, 0, -9);
    }

    static void p21_whatIsLeftAloneIsInNone(Due due) {
        WhichWord x = Due.of("e,f*", "e*,f");
        Due.sayIn(x, 0, 0, 1);
        due.is("MARK e, MARK f", x.left(0, 0, -1), 2);
        twoIs(due, x, 4, 8283);
    }

    static void p21_eachPairOnceTheLesserFirst(Due due) {
        WhichWord x = Due.of("b", "a*");
        Due.sayIn(x, 0, 0, 1);
        twoIs(due, x, 4, 1);
    }

    static void p21_theFirstIsByAThenB(Due due) {
        WhichWord x = Due.of("b", "b*,c,d");
        Due.sayIn(x, 0, 0, 1);
        due.is("MARK b", x.left(0, 0, 0), 1);
        twoIs(due, x, 5, 285);
    }

    static void p21_aSceneThatHasBothHasOneOfThem(Due due) {
        WhichWord x = Due.of("a", "b", "ab");
        Due.sayIn(x, 0, 0, 1, 2);
        twoIs(due, x, 4, 1);
    }

    static void p21_aSceneThatHasNeitherLeavesNone(Due due) {
        WhichWord x = Due.of("a", "b", "c");
        Due.sayIn(x, 0, 0, 1, 2);
        twoIs(due, x, 0, -9);
    }

    static void p21_onlyScenesInWhichItWasSaidCount(Due due) {
        WhichWord x = Due.of("a", "b", "c");
        Due.sayIn(x, 0, 0, 1);
        Due.sayIn(x, 1, 2);
        twoIs(due, x, 4, 1);
    }

    static void p21_noneIsNoRefusal(Due due) {
        WhichWord x = new WhichWord();
        x.two(0, 1);
        for (int what = 11; what <= 16; what++) {
            due.is("count(" + what + ")", x.count(what), 0);
        }
    }

    static void p21_whatTwoIsAnother(Due due) {
        Refused.is(due, -2, x -> x.two(0, 2));
    }

    static void p21_whatMinusOneIsAnother(Due due) {
        Refused.is(due, -2, x -> x.two(0, -1));
    }

    static void p21_whatOfTheLeastOrGreatestIntIsAnother(Due due) {
        Refused.is(due, -2, x -> x.two(0, LEAST));
        Refused.is(due, -2, x -> x.two(0, GREATEST));
    }

    static void p21_wordSixIsNobody(Due due) {
        Refused.is(due, -1, x -> x.two(6, 0));
    }

    static void p21_wordMinusOneIsNobody(Due due) {
        Refused.is(due, -1, x -> x.two(-1, 1));
    }

    static void p21_wordOfTheLeastOrGreatestIntIsNobody(Due due) {
        Refused.is(due, -1, x -> x.two(LEAST, 0));
        Refused.is(due, -1, x -> x.two(GREATEST, 0));
    }

    static void p21_nobodyAheadOfOther(Due due) {
        Refused.is(due, -1, x -> x.two(6, 2));
    }

    // Promise 22: A MEANING (-1: none) is GIVEN to a WORD: what it was (-9 none). -1.

    static void p22_noneWas(Due due) {
        due.is("give", new WhichWord().give(0, 7), -9);
    }

    static void p22_theFirstMeaningAndTheLast(Due due) {
        WhichWord x = new WhichWord();
        x.give(0, 0);
        due.is("it was 0", x.give(0, 89), 0);
        due.is("it was 89", x.give(0, 7), 89);
    }

    static void p22_theFirstWordAndTheLast(Due due) {
        WhichWord x = new WhichWord();
        x.give(0, 7);
        x.give(5, 8);
        due.is("WORD 0", x.give(0, -1), 7);
        due.is("WORD 5", x.give(5, -1), 8);
        due.is("WORD 1", x.give(1, -1), -9);
    }

    static void p22_minusOneIsNone(Due due) {
        WhichWord x = new WhichWord();
        x.give(0, 7);
        due.is("it was 7", x.give(0, -1), 7);
        due.is("it was none", x.give(0, -1), -9);
        due.is("it still was", x.give(0, 8), -9);
        due.is("none is no refusal", x.count(11), 0);
    }

    static void p22_aMeaningThatIsNotLeftMayBeGiven(Due due) {
        WhichWord x = Due.of("a");
        Due.sayIn(x, 0, 0);
        due.is("give", x.give(0, 5), -9);
        due.is("it was 5", x.give(0, 5), 5);
    }

    static void p22_oneMeaningMayBeGivenToTwoWords(Due due) {
        WhichWord x = new WhichWord();
        x.give(0, 5);
        x.give(1, 5);
        due.is("WORD 0", x.give(0, -1), 5);
        due.is("WORD 1", x.give(1, -1), 5);
    }

    static void p22_meaningNinetyIsNobody(Due due) {
        Refused.is(due, -1, x -> x.give(0, 90));
    }

    static void p22_meaningMinusTwoIsNobody(Due due) {
        Refused.is(due, -1, x -> x.give(0, -2));
    }

    static void p22_meaningMinusNineIsNobody(Due due) {
        Refused.is(due, -1, x -> x.give(0, -9));
    }

    static void p22_meaningOfTheLeastOrGreatestIntIsNobody(Due due) {
        Refused.is(due, -1, x -> x.give(0, LEAST));
        Refused.is(due, -1, x -> x.give(0, GREATEST));
    }

    static void p22_wordSixIsNobody(Due due) {
        Refused.is(due, -1, x -> x.give(6, 0));
    }

    static void p22_wordMinusOneIsNobodyBeItForNone(Due due) {
        Refused.is(due, -1, x -> x.give(-1, -1));
    }

    static void p22_wordOfTheLeastOrGreatestIntIsNobody(Due due) {
        Refused.is(due, -1, x -> x.give(LEAST, 0));
        Refused.is(due, -1, x -> x.give(GREATEST, 0));
    }

    // Promise 23: A SAYING (100 times the first WORD, 10 the second, the third): how many. -1 (one twice, too); -6 20.

    static void p23_theLeastAndTheGreatestThatCanBe(Due due) {
        WhichWord x = Due.of("a");
        due.is("0 1 2", x.saying(0, 12), 1);
        due.is("5 4 3", x.saying(0, 543), 2);
    }

    static void p23_theSameSayingAgainIsOneMore(Due due) {
        WhichWord x = Due.of("a");
        x.saying(0, 12);
        due.is("how many", x.saying(0, 12), 2);
    }

    static void p23_ofTheLastSceneThereCanBe(Due due) {
        WhichWord x = new WhichWord();
        for (int i = 0; i < 24; i++) {
            Due.tell(x, "a");
        }
        due.is("of SCENE 23", x.saying(23, 12), 1);
        x.takeBack();
        due.is("it went with it", x.count(4), 0);
    }

    static void p23_aWordTwiceIsNobody(Due due) {
        Refused.is(due, -1, x -> x.saying(0, 0));
        Refused.is(due, -1, x -> x.saying(0, 112));
        Refused.is(due, -1, x -> x.saying(0, 121));
        Refused.is(due, -1, x -> x.saying(0, 211));
        Refused.is(due, -1, x -> x.saying(0, 555));
    }

    static void p23_fewerDigitsHaveWordZeroTwice(Due due) {
        Refused.is(due, -1, x -> x.saying(0, 5));
        Refused.is(due, -1, x -> x.saying(0, 10));
        Refused.is(due, -1, x -> x.saying(0, 50));
    }

    static void p23_wordSixIsNobodyInEachPlace(Due due) {
        Refused.is(due, -1, x -> x.saying(0, 612));
        Refused.is(due, -1, x -> x.saying(0, 162));
        Refused.is(due, -1, x -> x.saying(0, 126));
        Refused.is(due, -1, x -> x.saying(0, 987));
    }

    static void p23_aFourthDigitIsNobody(Due due) {
        Refused.is(due, -1, x -> x.saying(0, 1012));
        Refused.is(due, -1, x -> x.saying(0, 10012));
        Refused.is(due, -1, x -> x.saying(0, GREATEST));
    }

    static void p23_belowZeroIsNobody(Due due) {
        Refused.is(due, -1, x -> x.saying(0, -1));
        Refused.is(due, -1, x -> x.saying(0, -12));
        Refused.is(due, -1, x -> x.saying(0, LEAST));
    }

    static void p23_theSceneBehindTheLastIsNobody(Due due) {
        Refused.is(due, -1, x -> x.saying(3, 12));
    }

    static void p23_sceneMinusOneIsNobody(Due due) {
        Refused.is(due, -1, x -> x.saying(-1, 12));
    }

    static void p23_sceneOfTheLeastOrGreatestIntIsNobody(Due due) {
        Refused.is(due, -1, x -> x.saying(LEAST, 12));
        Refused.is(due, -1, x -> x.saying(GREATEST, 12));
    }

    static void p23_twentyAreRoom(Due due) {
        WhichWord x = Due.of("a");
        for (int i = 1; i <= 20; i++) {
            due.is("how many", x.saying(0, 12), i);
        }
        due.is("SAYINGS", x.count(4), 20);
    }

    static void p23_aTwentyFirstIsTooMany(Due due) {
        Refused.is(due, Refused::full, -6, x -> x.saying(0, 12));
    }

    static void p23_nobodyAheadOfRoom(Due due) {
        Refused.is(due, Refused::full, -1, x -> x.saying(24, 12));
        Refused.is(due, Refused::full, -1, x -> x.saying(0, 11));
    }

    static void p23_thereIsRoomAgainWhereASceneIsTakenBack(Due due) {
        WhichWord x = Due.of("a", "b");
        for (int i = 0; i < 20; i++) {
            x.saying(i == 7 ? 1 : 0, 12);
        }
        due.is("no room", x.saying(0, 12), -6);
        x.takeBack();
        due.is("room", x.saying(0, 12), 20);
        due.is("no room again", x.saying(0, 12), -6);
    }

    // Promise 24 and part III: ORDERS that FIT, as bits.

    /** WORD 0 is GIVEN MARK a, WORD 1 DOING x, WORD 2 MARK b. */
    private static WhichWord given(String text) {
        WhichWord x = Due.of(text);
        x.give(0, 0);
        x.give(1, 39);
        x.give(2, 1);
        return x;
    }

    private static void fits(Due due, String text, int saying, int orders) {
        WhichWord x = given(text);
        x.saying(0, saying);
        due.is("orders for " + saying + " in " + text, x.orders(), orders);
    }

    static void p24_withoutASayingAllFit(Due due) {
        due.is("orders", new WhichWord().orders(), 63);
        due.is("with SCENES", given("a,b;0x1").orders(), 63);
    }

    static void p24_order0WhoDoingWhom(Due due) {
        fits(due, "a,b;0x1", 12, 1);
    }

    static void p24_order1WhoWhomDoing(Due due) {
        fits(due, "a,b;0x1", 21, 2);
    }

    static void p24_order2DoingWhoWhom(Due due) {
        fits(due, "a,b;0x1", 102, 4);
    }

    static void p24_order3DoingWhomWho(Due due) {
        fits(due, "a,b;0x1", 120, 8);
    }

    static void p24_order4WhomWhoDoing(Due due) {
        fits(due, "a,b;0x1", 201, 16);
    }

    static void p24_order5WhomDoingWho(Due due) {
        fits(due, "a,b;0x1", 210, 32);
    }

    static void p24_twoOrdersFitWhereEachDoesItToTheOther(Due due) {
        fits(due, "a,b;0x1,1x0", 12, 33);
        fits(due, "ab,ab;0x1", 102, 12);
        fits(due, "a,b;0x1,1x0", 201, 18);
    }

    static void p24_noneFitsASceneWithoutADoing(Due due) {
        fits(due, "a,b", 12, 0);
    }

    static void p24_noneFitsAnotherDoing(Due due) {
        fits(due, "a,b;0y1", 12, 0);
        fits(due, "a,b;0z1", 12, 0);
    }

    static void p24_whoAndWhomMustBeOfOneDoing(Due due) {
        fits(due, "a,b,c;0x2,2x1", 12, 0);
        fits(due, "a,b,c;0x2,2x1,0x1", 12, 1);
    }

    static void p24_aWordThatIsNotGivenFitsNone(Due due) {
        for (int word = 0; word < 3; word++) {
            WhichWord x = given("a,b;0x1");
            x.saying(0, 12);
            x.give(word, -1);
            due.is("without WORD " + word, x.orders(), 0);
        }
    }

    private static void givenOther(Due due, int word, int... meanings) {
        for (int meaning : meanings) {
            WhichWord x = given("a*,b*;0x1");
            x.saying(0, 12);
            x.give(word, meaning);
            due.is("WORD " + word + " given " + meaning, x.orders(), 0);
        }
    }

    static void p24_theDoingMustBeOfThatKind(Due due) {
        givenOther(due, 1, 0, 38, 42, 60, 89);
    }

    static void p24_theOthersMustBeMarks(Due due) {
        givenOther(due, 0, 6, 21, 39, 42, 78, 84, 89);
        givenOther(due, 2, 6, 24, 39, 61, 79, 85, 89);
    }

    static void p24_theLastDoingAndTheLastMarks(Due due) {
        WhichWord x = Due.of("e,f;0z1");
        x.give(0, 4);
        x.give(1, 41);
        x.give(2, 5);
        x.saying(0, 12);
        due.is("orders", x.orders(), 1);
    }

    static void p24_twoWordsOfOneMark(Due due) {
        WhichWord x = given("a,a;1x0");
        x.give(2, 0);
        x.saying(0, 21);
        due.is("orders", x.orders(), 18);
    }

    static void p24_allSayingsMustFit(Due due) {
        WhichWord x = given("a,b;0x1,1x0");
        x.saying(0, 12);
        due.is("0 and 5", x.orders(), 33);
        Due.tell(x, "a,b;0x1");
        x.saying(1, 210);
        due.is("5", x.orders(), 32);
        x.saying(1, 12);
        due.is("none", x.orders(), 0);
    }

    static void p24_theTwentiethSayingMustFitToo(Due due) {
        WhichWord x = given("a,b;0x1");
        for (int i = 0; i < 19; i++) {
            x.saying(0, 12);
        }
        due.is("nineteen", x.orders(), 1);
        x.saying(0, 21);
        due.is("twenty", x.orders(), 0);
    }

    static void p24_whatIsGivenLaterCounts(Due due) {
        WhichWord x = Due.of("a,b;0x1");
        x.saying(0, 345);
        due.is("not GIVEN", x.orders(), 0);
        x.give(3, 0);
        x.give(4, 39);
        x.give(5, 1);
        due.is("GIVEN", x.orders(), 1);
    }

    static void p24_aWordNeedNotHaveBeenSaid(Due due) {
        WhichWord x = given("a,b;0x1");
        x.saying(0, 12);
        due.is("SAID", x.count(3), 0);
        due.is("orders", x.orders(), 1);
    }
}
