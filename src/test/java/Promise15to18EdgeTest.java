/** The boundary cases of promises 15 to 18: set, likelihood, chance, likeliest. */
public final class Promise15to18EdgeTest {
    private static final int LEAST = Integer.MIN_VALUE;
    private static final int GREATEST = Integer.MAX_VALUE;
    private static final long LONG_NOBODY = -4000000000000000001L;
    private static final long LONG_OTHER = -4000000000000000002L;

    public static void main(String[] args) {
        Edge.runAll(Promise15to18EdgeTest.class, 15, 18);
    }

    // Promise 15: HIT (what 0), MISS (1): what it was. -2; -4; -6.

    static void p15_oneIsTheLeastHit(Due due) {
        WhichWord x = new WhichWord();
        due.is("what it was", x.set(0, 1), 90);
        due.is("it is 1", x.set(0, 50), 1);
    }

    static void p15_zeroIsTheLeastMiss(Due due) {
        WhichWord x = new WhichWord();
        due.is("what it was", x.set(1, 0), 10);
        due.is("it is 0", x.set(1, 50), 0);
    }

    static void p15_aHundredIsTheGreatestHit(Due due) {
        WhichWord x = new WhichWord();
        due.is("what it was", x.set(0, 100), 90);
        due.is("it is 100", x.set(0, 50), 100);
    }

    static void p15_aHundredIsTheGreatestMiss(Due due) {
        WhichWord x = new WhichWord();
        due.is("what it was", x.set(1, 100), 10);
        due.is("it is 100", x.set(1, 50), 100);
    }

    static void p15_hitAndMissAreTwo(Due due) {
        WhichWord x = new WhichWord();
        x.set(0, 33);
        due.is("MISS is as it was", x.set(1, 44), 10);
        due.is("HIT is as it was", x.set(0, 1), 33);
    }

    static void p15_hitZeroIsBelow(Due due) {
        Refused.is(due, -4, x -> x.set(0, 0));
    }

    static void p15_missMinusOneIsBelow(Due due) {
        Refused.is(due, -4, x -> x.set(1, -1));
    }

    static void p15_theLeastIntIsBelow(Due due) {
        Refused.is(due, -4, x -> x.set(0, LEAST));
        Refused.is(due, -4, x -> x.set(1, LEAST));
    }

    static void p15_hit101IsTooMuch(Due due) {
        Refused.is(due, -6, x -> x.set(0, 101));
    }

    static void p15_miss101IsTooMuch(Due due) {
        Refused.is(due, -6, x -> x.set(1, 101));
    }

    static void p15_theGreatestIntIsTooMuch(Due due) {
        Refused.is(due, -6, x -> x.set(0, GREATEST));
        Refused.is(due, -6, x -> x.set(1, GREATEST));
    }

    static void p15_whatTwoIsAnother(Due due) {
        Refused.is(due, -2, x -> x.set(2, 50));
    }

    static void p15_whatMinusOneIsAnother(Due due) {
        Refused.is(due, -2, x -> x.set(-1, 50));
    }

    static void p15_whatOfTheLeastOrGreatestIntIsAnother(Due due) {
        Refused.is(due, -2, x -> x.set(LEAST, 50));
        Refused.is(due, -2, x -> x.set(GREATEST, 50));
    }

    static void p15_otherAheadOfBelow(Due due) {
        Refused.is(due, -2, x -> x.set(2, -1));
    }

    static void p15_otherAheadOfRoom(Due due) {
        Refused.is(due, -2, x -> x.set(2, 101));
    }

    // Promise 16 and part II, LIKELY: WEIGHT times HIT or MISS for each of the latest 6 SCENES. -1.

    private static WhichWord ofScenes(int many, String text) {
        WhichWord x = new WhichWord();
        for (int i = 0; i < many; i++) {
            Due.tell(x, text);
        }
        return x;
    }

    static void p16_neverSaidIsTheWeight(Due due) {
        WhichWord x = ofScenes(7, "a");
        x.weight(7, 99);
        due.is("MARK a", x.likelihood(0, 0), 10);
        due.is("AWAY f", x.likelihood(0, 89), 99);
        due.is("no SCENE", new WhichWord().likelihood(5, 89), 10);
    }

    static void p16_oneScene(Due due) {
        WhichWord x = ofScenes(1, "a");
        Due.sayIn(x, 0, 0);
        due.is("HIT", x.likelihood(0, 0), 900);
        due.is("MISS", x.likelihood(0, 1), 100);
    }

    static void p16_sixScenesAreAllTaken(Due due) {
        WhichWord x = Due.of("b", "a", "a", "a", "a", "a");
        Due.sayIn(x, 0, 0, 1, 2, 3, 4, 5);
        due.is("five hits", x.likelihood(0, 0), 590490000000L);
        due.is("one hit", x.likelihood(0, 1), 90000000L);
    }

    static void p16_ofSevenTheFirstIsNotTaken(Due due) {
        WhichWord x = Due.of("b", "a", "a", "a", "a", "a", "a");
        Due.sayIn(x, 0, 0, 1, 2, 3, 4, 5, 6);
        due.is("six hits", x.likelihood(0, 0), 5314410000000L);
        due.is("no hit", x.likelihood(0, 1), 10000000L);
    }

    static void p16_ofTwentyFourTheLastSixAreTaken(Due due) {
        WhichWord x = ofScenes(18, "b");
        for (int i = 18; i < 24; i++) {
            Due.tell(x, "a");
        }
        for (int i = 0; i < 24; i++) {
            x.say(i, 0, true);
        }
        due.is("six hits", x.likelihood(0, 0), 5314410000000L);
        due.is("no hit", x.likelihood(0, 1), 10000000L);
        x.say(23, 0, false);
        due.is("five hits", x.likelihood(0, 0), 590490000000L);
    }

    static void p16_theLatestAreSoByNumbersNotByWhenItWasTold(Due due) {
        WhichWord x = Due.of("b", "a", "a", "a", "a", "a", "a");
        Due.sayIn(x, 0, 6, 5, 4, 3, 2, 1, 0);
        due.is("six hits", x.likelihood(0, 0), 5314410000000L);
    }

    static void p16_scenesInWhichItWasNotSaidAreNotAmongTheSix(Due due) {
        WhichWord x = Due.of("b", "a", "a", "a", "a", "a", "a", "b");
        Due.sayIn(x, 0, 0, 1, 2, 3, 4, 5);
        due.is("five hits and the first", x.likelihood(0, 0), 590490000000L);
    }

    static void p16_missZeroMakesZero(Due due) {
        WhichWord x = Due.of("a", "b");
        x.set(1, 0);
        Due.sayIn(x, 0, 0, 1);
        due.is("one miss", x.likelihood(0, 0), 0);
        due.is("two", x.likelihood(0, 5), 0);
    }

    static void p16_theGreatestThatCanBe(Due due) {
        WhichWord x = ofScenes(24, "a");
        for (int i = 0; i < 24; i++) {
            x.say(i, 0, true);
        }
        x.weight(0, 99);
        x.set(0, 100);
        due.is("likelihood", x.likelihood(0, 0), 99000000000000L);
    }

    static void p16_theLeastThatIsNotZero(Due due) {
        WhichWord x = ofScenes(6, "a");
        Due.sayIn(x, 0, 0, 1, 2, 3, 4, 5);
        x.weight(0, 1);
        x.set(0, 1);
        due.is("likelihood", x.likelihood(0, 0), 1);
    }

    static void p16_wordSixIsNobody(Due due) {
        Refused.is(due, LONG_NOBODY, x -> x.likelihood(6, 0));
    }

    static void p16_wordMinusOneIsNobody(Due due) {
        Refused.is(due, LONG_NOBODY, x -> x.likelihood(-1, 0));
    }

    static void p16_wordOfTheLeastOrGreatestIntIsNobody(Due due) {
        Refused.is(due, LONG_NOBODY, x -> x.likelihood(LEAST, 0));
        Refused.is(due, LONG_NOBODY, x -> x.likelihood(GREATEST, 0));
    }

    static void p16_meaningNinetyIsNobody(Due due) {
        Refused.is(due, LONG_NOBODY, x -> x.likelihood(0, 90));
    }

    static void p16_meaningMinusOneIsNobody(Due due) {
        Refused.is(due, LONG_NOBODY, x -> x.likelihood(0, -1));
    }

    static void p16_meaningOfTheLeastOrGreatestIntIsNobody(Due due) {
        Refused.is(due, LONG_NOBODY, x -> x.likelihood(0, LEAST));
        Refused.is(due, LONG_NOBODY, x -> x.likelihood(0, GREATEST));
    }

    static void p16_neitherWordNorMeaningIsCountedOnce(Due due) {
        Refused.is(due, LONG_NOBODY, x -> x.likelihood(6, 90));
    }

    // Promise 17: CHANCE: above (part 0), below the line (1). -2 part; -1.

    private static void chanceIs(Due due, WhichWord x, int meaning, long above, long below) {
        due.is("above the line for " + meaning, x.chance(0, meaning, 0), above);
        due.is("below it for " + meaning, x.chance(0, meaning, 1), below);
    }

    static void p17_neverSaidAllAreAsLikely(Due due) {
        chanceIs(due, new WhichWord(), 0, 1, 90);
        chanceIs(due, new WhichWord(), 89, 1, 90);
    }

    static void p17_zeroIsZeroByOne(Due due) {
        WhichWord x = Due.of("a");
        x.set(1, 0);
        Due.sayIn(x, 0, 0);
        chanceIs(due, x, 5, 0, 1);
    }

    static void p17_whereAllAreZeroItIsZeroByOneToo(Due due) {
        WhichWord x = Due.of("a", "b");
        x.set(1, 0);
        Due.sayIn(x, 0, 0, 1);
        chanceIs(due, x, 0, 0, 1);
        chanceIs(due, x, 89, 0, 1);
    }

    static void p17_theOnlyOneIsOneByOne(Due due) {
        WhichWord x = Due.of("a", "a*");
        x.set(1, 0);
        Due.sayIn(x, 0, 0, 1);
        chanceIs(due, x, 0, 1, 1);
        chanceIs(due, x, 84, 0, 1);
    }

    static void p17_leastTerms(Due due) {
        WhichWord x = new WhichWord();
        x.weight(7, 1);
        chanceIs(due, x, 0, 5, 423);
        chanceIs(due, x, 84, 1, 846);
    }

    static void p17_greatNumbersInLeastTerms(Due due) {
        WhichWord x = ofScenes(6, "a");
        Due.sayIn(x, 0, 0, 1, 2, 3, 4, 5);
        x.set(0, 100);
        x.set(1, 99);
        // 10^13 by 2 * 10^13 + 880 * 99^6, both by 80
        chanceIs(due, x, 0, 125000000000L, 10606281643411L);
    }

    static void p17_theGreatestSumThatCanBe(Due due) {
        WhichWord x = ofScenes(6, "a");
        Due.sayIn(x, 0, 0, 1, 2, 3, 4, 5);
        for (int kind = 0; kind < 8; kind++) {
            x.weight(kind, 99);
        }
        x.set(0, 100);
        x.set(1, 100);
        chanceIs(due, x, 0, 1, 90);
        x.weight(1, 98);
        // 99 by 75 * 99 + 15 * 98, both by 3
        chanceIs(due, x, 0, 33, 2965);
    }

    static void p17_partTwoIsAnother(Due due) {
        Refused.is(due, LONG_OTHER, x -> x.chance(0, 0, 2));
    }

    static void p17_partMinusOneIsAnother(Due due) {
        Refused.is(due, LONG_OTHER, x -> x.chance(0, 0, -1));
    }

    static void p17_partOfTheLeastOrGreatestIntIsAnother(Due due) {
        Refused.is(due, LONG_OTHER, x -> x.chance(0, 0, LEAST));
        Refused.is(due, LONG_OTHER, x -> x.chance(0, 0, GREATEST));
    }

    static void p17_otherAheadOfNobody(Due due) {
        Refused.is(due, LONG_OTHER, x -> x.chance(6, 0, 2));
        Refused.is(due, LONG_OTHER, x -> x.chance(0, 90, 2));
    }

    static void p17_wordSixIsNobody(Due due) {
        Refused.is(due, LONG_NOBODY, x -> x.chance(6, 0, 0));
    }

    static void p17_wordMinusOneIsNobody(Due due) {
        Refused.is(due, LONG_NOBODY, x -> x.chance(-1, 0, 1));
    }

    static void p17_wordOfTheLeastOrGreatestIntIsNobody(Due due) {
        Refused.is(due, LONG_NOBODY, x -> x.chance(LEAST, 0, 0));
        Refused.is(due, LONG_NOBODY, x -> x.chance(GREATEST, 0, 0));
    }

    static void p17_meaningNinetyIsNobody(Due due) {
        Refused.is(due, LONG_NOBODY, x -> x.chance(0, 90, 1));
    }

    static void p17_meaningMinusOneIsNobody(Due due) {
        Refused.is(due, LONG_NOBODY, x -> x.chance(0, -1, 0));
    }

    static void p17_meaningOfTheLeastOrGreatestIntIsNobody(Due due) {
        Refused.is(due, LONG_NOBODY, x -> x.chance(0, LEAST, 0));
        Refused.is(due, LONG_NOBODY, x -> x.chance(0, GREATEST, 0));
    }

    // Promise 18: LIKELIEST. -1.

    static void p18_neverSaidTheLeastOfTheGreatestWeight(Due due) {
        WhichWord x = new WhichWord();
        due.is("all alike", x.likeliest(0), 0);
        x.weight(7, 11);
        due.is("AWAY a", x.likeliest(0), 84);
    }

    static void p18_ofSeveralTheLeast(Due due) {
        WhichWord x = Due.of("b");
        Due.sayIn(x, 0, 0);
        due.is("MARK b, AWAY b", x.likeliest(0), 1);
    }

    static void p18_whereAllAreZeroTheLeast(Due due) {
        WhichWord x = Due.of("b", "c");
        x.set(1, 0);
        Due.sayIn(x, 0, 0, 1);
        due.is("of all", x.likeliest(0), 0);
    }

    static void p18_theLastMeaning(Due due) {
        WhichWord x = Due.of("f");
        Due.sayIn(x, 0, 0);
        x.weight(7, 11);
        due.is("AWAY f", x.likeliest(0), 89);
    }

    static void p18_itNeedNotBeLeft(Due due) {
        WhichWord x = Due.of("b", "b", "c");
        Due.sayIn(x, 0, 0, 1, 2);
        due.is("none is LEFT", x.left(0, 0, -1), 0);
        due.is("MARK b", x.likeliest(0), 1);
    }

    static void p18_onlyTheLatestSixCount(Due due) {
        WhichWord x = Due.of("b", "b", "b", "b", "b", "b", "c", "c", "c", "c", "c", "c");
        for (int i = 0; i < 12; i++) {
            x.say(i, 0, true);
        }
        due.is("MARK c", x.likeliest(0), 2);
    }

    static void p18_wordSixIsNobody(Due due) {
        Refused.is(due, -1, x -> x.likeliest(6));
    }

    static void p18_wordMinusOneIsNobody(Due due) {
        Refused.is(due, -1, x -> x.likeliest(-1));
    }

    static void p18_wordOfTheLeastOrGreatestIntIsNobody(Due due) {
        Refused.is(due, -1, x -> x.likeliest(LEAST));
        Refused.is(due, -1, x -> x.likeliest(GREATEST));
    }
}
