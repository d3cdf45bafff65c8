/** The boundary cases of promises 25 to 30: next, enough, help, never, same, part. */
public final class Promise25to30EdgeTest {
    private static final int LEAST = Integer.MIN_VALUE;
    private static final int GREATEST = Integer.MAX_VALUE;

    public static void main(String[] args) {
        Edge.runAll(Promise25to30EdgeTest.class, 25, 30);
    }

    /** Of these SCENES, WORD 0 was SAID in the first. */
    private static WhichWord saidInFirst(String... texts) {
        WhichWord x = Due.of(texts);
        Due.sayIn(x, 0, 0);
        return x;
    }

    /** So many SCENES of one TEXT, then others. */
    private static WhichWord manyThen(int many, String text, String... texts) {
        WhichWord x = new WhichWord();
        for (int i = 0; i < many; i++) {
            Due.tell(x, text);
        }
        for (String other : texts) {
            Due.tell(x, other);
        }
        return x;
    }

    private static void nothingRefused(Due due, WhichWord x) {
        for (int what = 11; what <= 16; what++) {
            due.is("count(" + what + ")", x.count(what), 0);
        }
    }

    // Promise 25 and part IV: NEXT; -9 none is SHOWN. -1.

    static void p25_noneIsShownWhereThereIsNone(Due due) {
        WhichWord x = new WhichWord();
        due.is("next", x.next(0), -9);
        nothingRefused(due, x);
    }

    static void p25_noneIsShownWhereItWasSaidInAll(Due due) {
        WhichWord x = Due.of("a", "b");
        Due.sayIn(x, 0, 0, 1);
        due.is("next", x.next(0), -9);
        due.is("of another WORD", x.next(1), 0);
    }

    static void p25_theOnlyOneThatIsShown(Due due) {
        due.is("the second", saidInFirst("a", "b").next(0), 1);
    }

    static void p25_aSceneInWhichItWasSaidIsNotShown(Due due) {
        WhichWord x = Due.of("b", "ab");
        due.is("five of ninety", x.next(0), 1);
        Due.sayIn(x, 0, 1);
        due.is("the other", x.next(0), 0);
    }

    static void p25_manyThatItHasAreAsBadAsManyThatItHasNot(Due due) {
        due.is("7 and 0, 0 and 7", saidInFirst("a,b;0x1", "a,b;0x1", "c").next(0), 1);
        due.is("0 and 7, 7 and 0", saidInFirst("a,b;0x1", "c", "a,b;0x1").next(0), 1);
        due.is("6 and 1, 2 and 5", saidInFirst("a,b;0x1", "a*,b;0x1", "a").next(0), 2);
        due.is("2 and 5, 4 and 3", saidInFirst("a,b;0x1", "a", "a,b").next(0), 2);
    }

    static void p25_ofSeveralTheLeast(Due due) {
        due.is("alike", saidInFirst("a", "b", "b", "b").next(0), 1);
        due.is("the best is twice", saidInFirst("ab", "c", "a", "a").next(0), 2);
    }

    static void p25_whereNothingIsLeftTheLeast(Due due) {
        WhichWord x = Due.of("a", "b", "c", "d");
        Due.sayIn(x, 0, 0, 1);
        due.is("left", x.left(0, 0, -1), 0);
        due.is("next", x.next(0), 2);
    }

    static void p25_itMayBeBehindTheTwelfth(Due due) {
        due.is("SCENE 13", manyThen(13, "a", "ab").next(0), 13);
        due.is("SCENE 23", manyThen(23, "a", "ab").next(0), 23);
    }

    static void p25_wordSixIsNobody(Due due) {
        Refused.is(due, -1, x -> x.next(6));
    }

    static void p25_wordMinusOneIsNobody(Due due) {
        Refused.is(due, -1, x -> x.next(-1));
    }

    static void p25_wordOfTheLeastOrGreatestIntIsNobody(Due due) {
        Refused.is(due, -1, x -> x.next(LEAST));
        Refused.is(due, -1, x -> x.next(GREATEST));
    }

    // Promise 26 and part IV: ENOUGH, as bits of SCENES; -9 no three are. -1.

    static void p26_noneIsEnoughWhereThereIsNone(Due due) {
        due.is("enough", new WhichWord().enough(0), 0);
    }

    static void p26_noneIsEnoughWhereItWasSaidInAll(Due due) {
        due.is("enough", saidInFirst("a,b;0x1").enough(0), 0);
    }

    static void p26_noneIsEnoughWhereNothingIsLeft(Due due) {
        WhichWord x = Due.of("a", "b", "c");
        Due.sayIn(x, 0, 0, 1);
        due.is("enough", x.enough(0), 0);
    }

    static void p26_noneIsEnoughWhereOneIsLeft(Due due) {
        WhichWord x = Due.of("a", "a*", "b", "a");
        Due.sayIn(x, 0, 0, 1);
        due.is("left", x.left(0, 0, -1), 1);
        due.is("enough", x.enough(0), 0);
    }

    static void p26_noneIsEnoughWhereNoSceneParts(Due due) {
        due.is("all, none", saidInFirst("a,b;0x1", "a,b;0x1", "c").enough(0), 0);
    }

    static void p26_oneIsEnough(Due due) {
        due.is("the second", saidInFirst("ab", "c", "a").enough(0), 4);
    }

    static void p26_twoAreEnough(Due due) {
        due.is("a, b", Due.of("a", "b").enough(0), 3);
    }

    static void p26_threeAreEnough(Due due) {
        due.is("a, b, c", Due.of("a", "b", "c").enough(0), 7);
    }

    static void p26_noThreeAreEnough(Due due) {
        WhichWord x = Due.of("a", "b", "c", "d");
        due.is("a, b, c, d", x.enough(0), -9);
        nothingRefused(due, x);
    }

    static void p26_theFewestAheadOfTheLeastAsBits(Due due) {
        // 1, 2 and 3 part a, b, c, d, and so do 4 and 5 alone
        due.is("4 and 5", saidInFirst("a,b,c,d", "a", "b", "c", "a,b", "a,c").enough(0), 48);
    }

    static void p26_ofSeveralSetsTheLeastAsBits(Due due) {
        due.is("alike", Due.of("a", "a", "b", "b").enough(0), 5);
        // 1, 3, 4 are 26 as bits; 1, 2, 5, which come first by their numbers, are 38
        due.is("1, 3, 4", saidInFirst("a,b,c,d", "d,b*", "c", "a", "a,b", "b").enough(0), 26);
    }

    static void p26_onlyWhatIsLeftMustBeParted(Due due) {
        due.is("not e, f", saidInFirst("a", "b", "c", "d", "e", "f", "a*").enough(0), 64);
    }

    static void p26_theTwelfthShownIsOfThem(Due due) {
        WhichWord x = manyThen(12, "ab", "b");
        x.say(0, 0, true);
        due.is("SCENE 12, the twelfth that is SHOWN", x.enough(0), 1 << 12);
    }

    static void p26_theThirteenthShownIsNot(Due due) {
        WhichWord x = manyThen(13, "ab", "b");
        x.say(0, 0, true);
        due.is("what it alone parts need not be parted", x.enough(0), 0);
        due.is("it is of another WORD's neither", x.enough(1), 1);
    }

    static void p26_whatOnlyOthersThanTheTwelvePartAsksForNoMore(Due due) {
        due.is("a, b, c, not d, e", manyThen(9, "a", "b", "c", "c", "d", "e").enough(0), 1 | 1 << 9 | 1 << 10);
        due.is("d is of the twelve", manyThen(8, "a", "b", "c", "c", "d", "e").enough(0), -9);
    }

    static void p26_theLastThreeOfTheTwelve(Due due) {
        WhichWord x = saidInFirst("a,b,c,d", "e", "e", "e", "e", "e", "e", "e", "e", "e", "a", "b", "c");
        due.is("10, 11, 12", x.enough(0), 7 << 10);
    }

    static void p26_anotherWordsScenesAreItsOwn(Due due) {
        WhichWord x = saidInFirst("a", "b");
        due.is("WORD 0", x.enough(0), 0);
        due.is("WORD 1", x.enough(1), 3);
    }

    static void p26_wordSixIsNobody(Due due) {
        Refused.is(due, -1, x -> x.enough(6));
    }

    static void p26_wordMinusOneIsNobody(Due due) {
        Refused.is(due, -1, x -> x.enough(-1));
    }

    static void p26_wordOfTheLeastOrGreatestIntIsNobody(Due due) {
        Refused.is(due, -1, x -> x.enough(LEAST));
        Refused.is(due, -1, x -> x.enough(GREATEST));
    }

    // Promise 27 and part IV: What a HELPER chooses, as bits of SCENES; -9. -1; -4; -6; -3 the MEANING is not LEFT.

    static void p27_oneSceneIsTheLeast(Due due) {
        due.is("the only one", saidInFirst("ab", "b", "a").help(0, 0, 1), 4);
    }

    static void p27_threeScenesAreTheMost(Due due) {
        due.is("all three", saidInFirst("ab", "a", "a", "b", "a").help(0, 0, 3), 22);
    }

    static void p27_thereAreNotSoMany(Due due) {
        WhichWord x = saidInFirst("ab", "a", "b", "a");
        due.is("two", x.help(0, 0, 2), 10);
        due.is("not three", x.help(0, 0, 3), -9);
        due.is("not two", x.help(0, 1, 2), -9);
        due.is("not one", x.help(0, 6, 1), -9);
        nothingRefused(due, x);
    }

    static void p27_noneIsShown(Due due) {
        WhichWord x = saidInFirst("a");
        due.is("help", x.help(0, 0, 1), -9);
        due.is("no SCENE", new WhichWord().help(0, 0, 1), -9);
    }

    static void p27_aWordThatWasNeverSaid(Due due) {
        due.is("AWAY f", Due.of("a", "f").help(0, 89, 1), 2);
    }

    static void p27_theSetByWhichFewestAreLeft(Due due) {
        // by SCENE 1 five are LEFT, by SCENE 2 two
        due.is("the second", saidInFirst("ab", "ab", "a").help(0, 0, 1), 4);
    }

    static void p27_ofSeveralSetsTheLeastAsBits(Due due) {
        due.is("alike", saidInFirst("ab", "a", "a").help(0, 0, 1), 2);
        // 2, 3 are 12 as bits; 1, 4, which come first by their numbers, are 18
        WhichWord x = saidInFirst("a,b,c,d", "a,b,c", "a,b", "a,c", "a,d");
        due.is("2 and 3", x.help(0, 0, 2), 12);
    }

    static void p27_onlyWhatIsLeftIsCounted(Due due) {
        // SCENE 1 HAS more, but fewer of what is LEFT
        due.is("the first", saidInFirst("ab", "acdef", "ab").help(0, 0, 1), 2);
    }

    static void p27_theTwelfthShownMayBeChosen(Due due) {
        due.is("SCENE 11", manyThen(11, "b", "a").help(0, 0, 1), 1 << 11);
        WhichWord x = manyThen(12, "ab", "a");
        x.say(0, 0, true);
        due.is("SCENE 12, the twelfth that is SHOWN", x.help(0, 0, 1), 1 << 12);
    }

    static void p27_theThirteenthShownMayNot(Due due) {
        due.is("SCENE 12", manyThen(12, "b", "a").help(0, 0, 1), -9);
        WhichWord x = manyThen(13, "ab", "a");
        x.say(0, 0, true);
        due.is("SCENE 13, the thirteenth that is SHOWN", x.help(0, 0, 1), 2);
    }

    static void p27_theLastThreeOfTheTwelve(Due due) {
        WhichWord x = manyThen(10, "a,b,c,d", "a,b,c", "a,b,d", "a,c,d");
        Due.sayIn(x, 0, 0);
        due.is("10, 11, 12", x.help(0, 0, 3), 7 << 10);
    }

    static void p27_theTwelveAreOfThoseShownNotOfThoseThatHaveIt(Due due) {
        due.is("two of them", manyThen(10, "b", "a", "a", "a").help(0, 0, 2), 1 << 10 | 1 << 11);
        due.is("not three", manyThen(10, "b", "a", "a", "a").help(0, 0, 3), -9);
    }

    static void p27_itSaysNothing(Due due) {
        WhichWord x = Refused.some();
        x.help(4, 0, 3);
        x.help(0, 0, 1);
        due.isText("what there is then", Look.whole(x), Look.whole(Refused.some()));
    }

    static void p27_nZeroIsBelow(Due due) {
        Refused.is(due, -4, x -> x.help(0, 0, 0));
    }

    static void p27_nOfTheLeastIntIsBelow(Due due) {
        Refused.is(due, -4, x -> x.help(0, 0, LEAST));
        Refused.is(due, -4, x -> x.help(0, 0, -1));
    }

    static void p27_nFourIsTooMany(Due due) {
        Refused.is(due, -6, x -> x.help(0, 0, 4));
    }

    static void p27_nOfTheGreatestIntIsTooMany(Due due) {
        Refused.is(due, -6, x -> x.help(0, 0, GREATEST));
    }

    static void p27_aMeaningThatIsNotLeftIsRefused(Due due) {
        Refused.is(due, -3, x -> x.help(0, 5, 1));
    }

    static void p27_aMeaningWithOneSlipIsNotLeft(Due due) {
        Refused.is(due, -3, x -> x.help(0, 39, 1));
    }

    static void p27_wordSixIsNobody(Due due) {
        Refused.is(due, -1, x -> x.help(6, 0, 1));
    }

    static void p27_wordMinusOneIsNobody(Due due) {
        Refused.is(due, -1, x -> x.help(-1, 0, 1));
    }

    static void p27_wordOfTheLeastOrGreatestIntIsNobody(Due due) {
        Refused.is(due, -1, x -> x.help(LEAST, 0, 1));
        Refused.is(due, -1, x -> x.help(GREATEST, 0, 1));
    }

    static void p27_meaningNinetyIsNobody(Due due) {
        Refused.is(due, -1, x -> x.help(0, 90, 1));
    }

    static void p27_meaningMinusOneIsNobody(Due due) {
        Refused.is(due, -1, x -> x.help(0, -1, 1));
    }

    static void p27_meaningOfTheLeastOrGreatestIntIsNobody(Due due) {
        Refused.is(due, -1, x -> x.help(0, LEAST, 1));
        Refused.is(due, -1, x -> x.help(0, GREATEST, 1));
    }

    static void p27_nobodyAheadOfBelow(Due due) {
        Refused.is(due, -1, x -> x.help(6, 0, 0));
        Refused.is(due, -1, x -> x.help(0, 90, 0));
    }

    static void p27_nobodyAheadOfRoom(Due due) {
        Refused.is(due, -1, x -> x.help(6, 0, 4));
        Refused.is(due, -1, x -> x.help(0, 90, 4));
    }

    static void p27_belowAheadOfState(Due due) {
        Refused.is(due, -4, x -> x.help(0, 5, 0));
    }

    static void p27_roomAheadOfState(Due due) {
        Refused.is(due, -6, x -> x.help(0, 5, 4));
    }

    // Promise 28: NEVER: pairs of MEANINGS that no SCENE at all (of all told) parts: how many.

    static void p28_withoutASceneAllPairs(Due due) {
        due.is("90 * 89 / 2", new WhichWord().never(), 4005);
    }

    static void p28_oneSceneLeavesThosePairsThatItDoesNotPart(Due due) {
        due.is("of 2 and of 88", Due.of("a").never(), 1 + 3828);
        due.is("of 7 and of 83", Due.of("a,b;0x1").never(), 21 + 3403);
    }

    static void p28_theSameSceneAgainPartsNoMore(Due due) {
        due.is("never", Due.of("a", "a").never(), 3829);
    }

    static void p28_theLastSceneThereCanBeCounts(Due due) {
        due.is("23", manyThen(23, "a").never(), 3829);
        due.is("24", manyThen(23, "a", "a*").never(), 3741);
    }

    static void p28_whatWasSaidDoesNotCount(Due due) {
        WhichWord x = Due.of("a", "a*");
        due.is("never", x.never(), 3741);
        Due.sayIn(x, 0, 0, 1);
        due.is("never still", x.never(), 3741);
    }

    static void p28_whatIsTakenBackPartsNoMore(Due due) {
        WhichWord x = Due.of("a", "a*");
        x.takeBack();
        due.is("never", x.never(), 3829);
    }

    // Promise 29: SAME: 1, 0. -1.

    static void p29_withoutASceneAllAreTheSame(Due due) {
        WhichWord x = new WhichWord();
        due.is("the first and the last", x.same(0, 89), 1);
        due.is("the last and the first", x.same(89, 0), 1);
    }

    static void p29_aMeaningIsTheSameAsItself(Due due) {
        WhichWord x = Due.of("a");
        due.is("had", x.same(0, 0), 1);
        due.is("not had", x.same(89, 89), 1);
    }

    static void p29_bothHadOrNeither(Due due) {
        WhichWord x = Due.of("a");
        due.is("both", x.same(0, 84), 1);
        due.is("neither", x.same(1, 89), 1);
        due.is("one", x.same(0, 1), 0);
        due.is("the other", x.same(1, 0), 0);
    }

    static void p29_theLastSceneThereCanBeParts(Due due) {
        due.is("23", manyThen(23, "a").same(0, 84), 1);
        due.is("24", manyThen(23, "a", "a*").same(0, 84), 0);
    }

    static void p29_meaningNinetyIsNobodyInEachPlace(Due due) {
        Refused.is(due, -1, x -> x.same(90, 0));
        Refused.is(due, -1, x -> x.same(0, 90));
    }

    static void p29_meaningMinusOneIsNobodyInEachPlace(Due due) {
        Refused.is(due, -1, x -> x.same(-1, 0));
        Refused.is(due, -1, x -> x.same(0, -1));
    }

    static void p29_meaningOfTheLeastOrGreatestIntIsNobody(Due due) {
        Refused.is(due, -1, x -> x.same(LEAST, 0));
        Refused.is(due, -1, x -> x.same(0, GREATEST));
    }

    static void p29_twoThatAreNoneAreCountedOnce(Due due) {
        Refused.is(due, -1, x -> x.same(90, 90));
    }

    // Promise 30: PART; -9 none. -1.

    static void p30_withoutASceneNone(Due due) {
        WhichWord x = new WhichWord();
        due.is("part", x.part(0, 89), -9);
        nothingRefused(due, x);
    }

    static void p30_aMeaningIsNotPartedFromItself(Due due) {
        WhichWord x = Due.of("a");
        due.is("had", x.part(0, 0), -9);
        due.is("not had", x.part(89, 89), -9);
    }

    static void p30_noSceneParts(Due due) {
        WhichWord x = Due.of("a", "a");
        due.is("both", x.part(0, 84), -9);
        due.is("neither", x.part(1, 89), -9);
    }

    static void p30_theFirstOfSeveral(Due due) {
        WhichWord x = Due.of("c", "a", "b", "a");
        due.is("MARK a, MARK b", x.part(0, 1), 1);
        due.is("the other way", x.part(1, 0), 1);
    }

    static void p30_theFirstScene(Due due) {
        due.is("SCENE 0", Due.of("a", "a").part(0, 1), 0);
    }

    static void p30_theLastSceneThereCanBe(Due due) {
        due.is("SCENE 23", manyThen(23, "a", "a*").part(0, 84), 23);
    }

    static void p30_meaningNinetyIsNobodyInEachPlace(Due due) {
        Refused.is(due, -1, x -> x.part(90, 0));
        Refused.is(due, -1, x -> x.part(0, 90));
    }

    static void p30_meaningMinusOneIsNobodyInEachPlace(Due due) {
        Refused.is(due, -1, x -> x.part(-1, 0));
        Refused.is(due, -1, x -> x.part(0, -1));
    }

    static void p30_meaningOfTheLeastOrGreatestIntIsNobody(Due due) {
        Refused.is(due, -1, x -> x.part(LEAST, 0));
        Refused.is(due, -1, x -> x.part(0, GREATEST));
    }

    static void p30_twoThatAreNoneAreCountedOnce(Due due) {
        Refused.is(due, -1, x -> x.part(90, -1));
    }
}
