/** The boundary cases of promises 1 to 6: a new object, feed, scene, takeBack, thing, doing. */
public final class Promise01to06EdgeTest {
    private static final int LEAST = Integer.MIN_VALUE;
    private static final int GREATEST = Integer.MAX_VALUE;
    /** As long as a TEXT can be. */
    private static final String FORTY = "abcdef,abcdef,abcdef,abcdef*;0x1,1y2,2z3";

    public static void main(String[] args) {
        Edge.runAll(Promise01to06EdgeTest.class, 1, 6);
    }

    // Promise 1: No SCENES.

    static void p01_noScenes(Due due) {
        due.is("SCENES", new WhichWord().count(0), 0);
    }

    static void p01_noThingsDoingsSaidSayingsBytes(Due due) {
        WhichWord x = new WhichWord();
        for (int what = 1; what <= 5; what++) {
            due.is("count(" + what + ")", x.count(what), 0);
        }
    }

    static void p01_noRefusals(Due due) {
        WhichWord x = new WhichWord();
        for (int what = 11; what <= 16; what++) {
            due.is("count(" + what + ")", x.count(what), 0);
        }
    }

    static void p01_sceneZeroIsNobody(Due due) {
        WhichWord x = new WhichWord();
        due.is("thing", x.thing(0, 0), -1);
        due.is("doing", x.doing(0, 0), -1);
        due.is("say", x.say(0, 0, true), -1);
        due.is("has", x.has(0, 0), -1);
        due.is("saying", x.saying(0, 12), -1);
    }

    static void p01_theFirstSceneIsZero(Due due) {
        due.is("scene", Due.tell(new WhichWord(), "a"), 0);
    }

    static void p01_weightsAreTenAtFirst(Due due) {
        WhichWord x = new WhichWord();
        for (int kind = 0; kind < 8; kind++) {
            due.is("weight of " + kind, x.weight(kind, 99), 10);
        }
    }

    static void p01_hitIsNinetyAtFirst(Due due) {
        due.is("HIT", new WhichWord().set(0, 1), 90);
    }

    static void p01_missIsTenAtFirst(Due due) {
        due.is("MISS", new WhichWord().set(1, 1), 10);
    }

    static void p01_nothingIsGiven(Due due) {
        WhichWord x = new WhichWord();
        for (int word = 0; word < 6; word++) {
            due.is("given to " + word, x.give(word, 0), -9);
        }
    }

    static void p01_thereIsNoImage(Due due) {
        due.is("restore", new WhichWord().restore(), -3);
    }

    static void p01_allMeaningsAreLeft(Due due) {
        WhichWord x = new WhichWord();
        for (int word = 0; word < 6; word++) {
            due.is("left for " + word, x.left(word, 0, -1), 90);
        }
    }

    static void p01_twoObjectsShareNothing(Due due) {
        WhichWord untouched = new WhichWord();
        Refused.some();
        Refused.full();
        due.isText("the other", Look.whole(untouched), Look.whole(new WhichWord()));
    }

    // Promise 2: n (1 .. 8) bytes come to the TEXT, the lowest first: how many it has. -4; -6 (above 40, too).

    static void p02_oneByteIsTheLeast(Due due) {
        due.is("feed 1", new WhichWord().feed(1, 'a'), 1);
    }

    static void p02_eightBytesAreTheMost(Due due) {
        due.is("feed 8", new WhichWord().feed(8, 0), 8);
    }

    static void p02_noBytesAreBelow(Due due) {
        Refused.is(due, -4, x -> x.feed(0, 'a'));
    }

    static void p02_minusOneIsBelow(Due due) {
        Refused.is(due, -4, x -> x.feed(-1, 'a'));
    }

    static void p02_theLeastIntIsBelow(Due due) {
        Refused.is(due, -4, x -> x.feed(LEAST, 'a'));
    }

    static void p02_nineBytesAreTooMany(Due due) {
        Refused.is(due, -6, x -> x.feed(9, 'a'));
    }

    static void p02_theGreatestIntIsTooMany(Due due) {
        Refused.is(due, -6, x -> x.feed(GREATEST, 'a'));
    }

    static void p02_theGreatestIntOnAFullTextDoesNotWrap(Due due) {
        Refused.is(due, Refused::full, -6, x -> x.feed(GREATEST, 'a'));
    }

    static void p02_fortyBytesAreRoom(Due due) {
        WhichWord x = new WhichWord();
        for (int i = 1; i <= 5; i++) {
            due.is("eight more", x.feed(8, 0), 8 * i);
        }
    }

    static void p02_theFortyFirstIsTooMany(Due due) {
        Refused.is(due, Refused::full, -6, x -> x.feed(1, 'a'));
    }

    private static WhichWord ofThirtySix() {
        WhichWord x = new WhichWord();
        Due.feedText(x, FORTY.substring(0, 36));
        return x;
    }

    static void p02_fiveBytesOnThirtySixAreTooManyAndNoneComes(Due due) {
        Refused.is(due, Promise01to06EdgeTest::ofThirtySix, -6, x -> x.feed(5, 0x6161616161L));
    }

    static void p02_fourBytesOnThirtySixFit(Due due) {
        WhichWord x = ofThirtySix();
        x.feed(5, 0x6161616161L);
        due.is("feed", Due.feedText(x, FORTY.substring(36)), 40);
        due.is("scene", x.scene(), 0);
    }

    static void p02_belowAheadOfRoom(Due due) {
        Refused.is(due, Refused::full, -4, x -> x.feed(0, 'a'));
    }

    static void p02_theLowestByteIsFirst(Due due) {
        WhichWord x = new WhichWord();
        x.feed(2, '*' << 8 | 'b');
        due.is("b*", x.scene(), 0);
        due.is("its THING", x.thing(0, 0), 66);
    }

    static void p02_bytesAboveThoseAskedForDoNotCome(Due due) {
        WhichWord x = new WhichWord();
        due.is("feed", x.feed(1, '*' << 8 | 'b'), 1);
        x.scene();
        due.is("b alone", x.thing(0, 0), 2);
    }

    static void p02_theEighthByteIsTheHighest(Due due) {
        WhichWord x = new WhichWord();
        x.feed(8, 0x2a6665642c636261L);
        due.is("abc,def*", x.scene(), 0);
        due.is("def*", x.thing(0, 1), 120);
    }

    static void p02_aByteOf255IsNoSign(Due due) {
        WhichWord x = new WhichWord();
        due.is("feed", x.feed(8, -1), 8);
        due.is("scene", x.scene(), -20);
    }

    static void p02_aHighestByteOf255IsOneByte(Due due) {
        WhichWord x = new WhichWord();
        x.feed(8, 0xff00000000000000L | 0x642c632c622c61L);
        due.is("the eighth of a,b,c,d and 255", x.scene(), -27);
    }

    static void p02_theTextComesTogetherByteByByte(Due due) {
        WhichWord x = new WhichWord();
        for (int i = 0; i < 40; i++) {
            due.is("byte " + i, x.feed(1, FORTY.charAt(i)), i + 1);
        }
        due.is("scene", x.scene(), 0);
    }

    static void p02_thereIsRoomAgainBehindAScene(Due due) {
        WhichWord x = Due.of(FORTY);
        due.is("feed", x.feed(8, 0), 8);
    }

    static void p02_thereIsRoomAgainBehindAFault(Due due) {
        WhichWord x = new WhichWord();
        Due.feedText(x, FORTY.replace('a', 'g'));
        due.is("scene", x.scene(), -20);
        due.is("feed", x.feed(8, 0), 8);
    }

    static void p02_nothingOfAnEarlierTextIsLeft(Due due) {
        WhichWord x = Due.of("abcdef*,abcdef*");
        due.is("b", Due.tell(x, "b"), 1);
        due.is("its THING", x.thing(1, 0), 2);
        due.is("no other", x.thing(1, 1), -9);
    }

    // Promise 3 and part I: what a TEXT may be, and its FAULT.

    private static void told(Due due, String text, int answer) {
        WhichWord x = new WhichWord();
        due.is("'" + text + "'", Due.tell(x, text), answer);
        due.is("SCENES behind '" + text + "'", x.count(0), answer < 0 ? 0 : 1);
    }

    static void p03_anEmptyTextLacksAtItsEnd(Due due) {
        told(due, "", -20);
    }

    static void p03_oneLetterIsAScene(Due due) {
        told(due, "a", 0);
        told(due, "f", 0);
    }

    static void p03_aLetterAheadOfAOrBehindFCanNotStand(Due due) {
        told(due, "`", -20);
        told(due, "g", -20);
        told(due, "a`", -21);
        told(due, "ag", -21);
        told(due, "A", -20);
    }

    static void p03_aThingBeginsWithALetter(Due due) {
        told(due, "*", -20);
        told(due, ",", -20);
        told(due, ";", -20);
        told(due, "0", -20);
        told(due, "*a", -20);
    }

    static void p03_sixLettersStand(Due due) {
        told(due, "abcdef", 0);
    }

    static void p03_aSeventhLetterCanNotStand(Due due) {
        told(due, "abcdeff", -26);
        told(due, "abcdefa", -26);
    }

    static void p03_lettersMustRise(Due due) {
        told(due, "ba", -21);
        told(due, "acb", -22);
        told(due, "abcdfe", -25);
        told(due, "a,fe", -23);
    }

    static void p03_aLetterTwiceDoesNotRise(Due due) {
        told(due, "aa", -21);
        told(due, "abb", -22);
    }

    static void p03_lettersMayLeaveOthersOut(Due due) {
        told(due, "af", 0);
    }

    static void p03_aStarStandsBehindLetters(Due due) {
        told(due, "a*", 0);
        told(due, "abcdef*", 0);
    }

    static void p03_aSecondStarCanNotStand(Due due) {
        told(due, "a**", -22);
    }

    static void p03_aLetterBehindAStarCanNotStand(Due due) {
        told(due, "a*b", -22);
    }

    static void p03_aThingLacksBehindAComma(Due due) {
        told(due, "a,", -22);
        told(due, "a*,b,", -25);
    }

    static void p03_aCommaBehindACommaCanNotStand(Due due) {
        told(due, "a,,b", -22);
        told(due, "a,;", -22);
        told(due, "a,*", -22);
    }

    static void p03_fourThingsStand(Due due) {
        told(due, "a,b,c,d", 0);
    }

    static void p03_aFifthThingIsAFaultAtTheSignAhead(Due due) {
        told(due, "a,b,c,d,e", -27);
        told(due, "a,b,c,d*,e", -28);
        told(due, "abcdef*,a,a,a,a", -33);
    }

    static void p03_aFifthThingThatLacksOrIsNoneIsAFaultThereToo(Due due) {
        told(due, "a,b,c,d,", -27);
        told(due, "a,b,c,d,g", -27);
        told(due, "a,b,c,d,;0x1", -27);
    }

    static void p03_aDoingLacksBehindTheSemicolon(Due due) {
        told(due, "a,b;", -24);
    }

    static void p03_aSecondSemicolonCanNotStand(Due due) {
        told(due, "a,b;;", -24);
        told(due, "a,b;0x1;", -27);
        told(due, "a,b;0x1;1x0", -27);
    }

    static void p03_aThingBehindTheSemicolonCanNotStand(Due due) {
        told(due, "a,b;c", -24);
        told(due, "a,b;0x1,c", -28);
    }

    static void p03_whoMustBeAThingOfTheScene(Due due) {
        told(due, "a,b;2x0", -24);
        told(due, "a,b,c;3x0", -26);
        told(due, "a,b,c,d;4x0", -28);
        told(due, "a,b;9x0", -24);
    }

    static void p03_aSignAheadOfTheDigitsOrBehindThemCanNotStand(Due due) {
        told(due, "a,b;/x0", -24);
        told(due, "a,b;:x0", -24);
        told(due, "a,b;0x/", -26);
        told(due, "a,b;0x:", -26);
    }

    static void p03_theLastThingMayDoItAndBeDoneTo(Due due) {
        told(due, "a,b;1x0", 0);
        told(due, "a,b,c;2x1,0y2", 0);
        told(due, "a,b,c,d;3x0,0y3", 0);
    }

    static void p03_theDoingLacks(Due due) {
        told(due, "a,b;0", -25);
    }

    static void p03_aDoingAheadOfXOrBehindZCanNotStand(Due due) {
        told(due, "a,b;0w1", -25);
        told(due, "a,b;0{1", -25);
        told(due, "a,b;0X1", -25);
        told(due, "a,b;01", -25);
    }

    static void p03_xAndZStand(Due due) {
        told(due, "a,b;0x1", 0);
        told(due, "a,b;0z1", 0);
    }

    static void p03_whomLacks(Due due) {
        told(due, "a,b;0x", -26);
        told(due, "a,b;0x,", -26);
    }

    static void p03_whomMustBeAThingOfTheScene(Due due) {
        told(due, "a,b;0x2", -26);
        told(due, "a,b,c;0x3", -28);
        told(due, "a,b,c,d;0x4", -30);
    }

    static void p03_whomMustBeAnotherThanWho(Due due) {
        told(due, "a,b;0x0", -26);
        told(due, "a,b;1x1", -26);
        told(due, "a,b,c,d;3z3", -30);
    }

    static void p03_ofOneThingNoDoingCanBe(Due due) {
        told(due, "a;", -22);
        told(due, "a;0", -23);
        told(due, "a;0x", -24);
        told(due, "a;0x0", -24);
        told(due, "a;0x1", -24);
        told(due, "a;1", -22);
    }

    static void p03_aDoingLacksBehindAComma(Due due) {
        told(due, "a,b;0x1,", -28);
        told(due, "a,b;0x1,1y0,", -32);
    }

    static void p03_aCommaBehindTheCommaOfADoingCanNotStand(Due due) {
        told(due, "a,b;0x1,,", -28);
        told(due, "a,b;,", -24);
    }

    static void p03_aSecondDigitCanNotStand(Due due) {
        told(due, "a,b;0x11", -27);
        told(due, "a,b;00x1", -25);
    }

    static void p03_threeDoingsStand(Due due) {
        told(due, "a,b;0x1,1y0,0z1", 0);
    }

    static void p03_theSameDoingTwiceStands(Due due) {
        told(due, "a,b;0x1,0x1,0x1", 0);
    }

    static void p03_aFourthDoingIsAFaultAtTheSignAhead(Due due) {
        told(due, "a,b;0x1,1y0,0z1,0x1", -35);
    }

    static void p03_aFourthDoingThatLacksOrIsNoneIsAFaultThereToo(Due due) {
        told(due, "a,b;0x1,1y0,0z1,", -35);
        told(due, "a,b;0x1,1y0,0z1,9", -35);
    }

    static void p03_aStarBehindADoingCanNotStand(Due due) {
        told(due, "a,b;0x1*", -27);
    }

    static void p03_theFirstFaultIsTold(Due due) {
        told(due, "ba,g;9", -21);
        told(due, "a,b;0w0", -25);
        told(due, "a,b,c,d,e;9", -27);
    }

    static void p03_signsThatAreNoneCanNotStand(Due due) {
        told(due, "\u0000", -20);
        told(due, "a\u0000", -21);
        told(due, " a", -20);
        told(due, "a b", -21);
        told(due, "a\n", -21);
        told(due, "a,b;0x1 ", -27);
    }

    static void p03_aByteAbove127IsNoLetter(Due due) {
        told(due, String.valueOf((char) ('a' + 128)), -20);
        told(due, String.valueOf((char) 255), -20);
        told(due, "a" + (char) ('*' + 128), -21);
    }

    static void p03_aTextOfFortyBytesIsAScene(Due due) {
        told(due, FORTY, 0);
    }

    static void p03_theFortiethByteCanBeTheFault(Due due) {
        told(due, FORTY.substring(0, 39) + "2", -59);
    }

    static void p03_somethingCanLackBehindTheFortiethByte(Due due) {
        told(due, "abcdef*,abcdef*,abcdef*,abcdef*;0x1,1y2,", -60);
        told(due, "abcdef*,abcdef*,abcdef*,abcde*;0x1,1y2,2", -60);
    }

    static void p03_aSceneLeavesNoText(Due due) {
        due.is("bytes", Due.of("a,b;0x1").count(5), 0);
    }

    static void p03_aFaultLeavesNoText(Due due) {
        WhichWord x = new WhichWord();
        Due.tell(x, "a,g");
        due.is("bytes", x.count(5), 0);
        due.is("an empty TEXT", x.scene(), -20);
    }

    static void p03_aFaultIsNotCounted(Due due) {
        WhichWord x = Due.of("", "g", "a,b,c,d,e", "a,b;0x1,1y0,0z1,0x1");
        for (int what = 11; what <= 16; what++) {
            due.is("count(" + what + ")", x.count(what), 0);
        }
    }

    static void p03_aFaultChangesNothingButTheText(Due due) {
        WhichWord x = Refused.some();
        x.feed(1, 'g');
        due.is("ab*,dg", x.scene(), -25);
        Due.feedText(x, "ab*,d");
        due.isText("what there is then", Look.whole(x), Look.whole(Refused.some()));
    }

    static void p03_numbersGoFromZeroToTwentyThree(Due due) {
        WhichWord x = new WhichWord();
        for (int i = 0; i < 24; i++) {
            due.is("SCENE " + i, Due.tell(x, "a"), i);
        }
        due.is("SCENES", x.count(0), 24);
    }

    static void p03_aFaultTakesNoNumber(Due due) {
        WhichWord x = Due.of("a");
        due.is("FAULT", Due.tell(x, "ag"), -21);
        due.is("the next", Due.tell(x, "b"), 1);
    }

    static void p03_aTwentyFifthIsRefusedAndTheTextStays(Due due) {
        Refused.is(due, Refused::full, -6, WhichWord::scene);
    }

    private static WhichWord fullWith(String text) {
        WhichWord x = new WhichWord();
        for (int i = 0; i < 24; i++) {
            Due.tell(x, "b");
        }
        Due.feedText(x, text);
        return x;
    }

    static void p03_aTwentyFifthThatHasAFaultIsRefusedToo(Due due) {
        Refused.is(due, () -> fullWith("ag"), -6, WhichWord::scene);
    }

    static void p03_aTwentyFifthOfNoTextIsRefusedToo(Due due) {
        Refused.is(due, () -> fullWith(""), -6, WhichWord::scene);
    }

    static void p03_theTextThatStayedIsASceneWhereThereIsRoom(Due due) {
        WhichWord x = fullWith("c*");
        due.is("no room", x.scene(), -6);
        due.is("23 are left", x.takeBack(), 23);
        due.is("room", x.scene(), 23);
        due.is("c*", x.thing(23, 0), 68);
        due.is("no TEXT", x.count(5), 0);
    }

    static void p03_thereIsRoomWhereAnImageOfFewerIsRestored(Due due) {
        WhichWord x = Refused.full();
        due.is("no room", x.scene(), -6);
        due.is("one", x.restore(), 1);
        due.is("the TEXT", x.scene(), 1);
        due.is("its THINGS", x.count(1), 6);
    }

    static void p03_nothingWasSaidInANewScene(Due due) {
        WhichWord x = Due.of("a");
        for (int word = 0; word < 6; word++) {
            due.is("said", x.said(word), 0);
        }
    }

    static void p03_twoScenesMayBeAlike(Due due) {
        WhichWord x = Due.of("a,b;0x1");
        due.is("the same again", Due.tell(x, "a,b;0x1"), 1);
        due.is("THINGS", x.count(1), 4);
    }

    // Promise 4: The latest SCENE is TAKEN BACK: how many are left. -3 there is none.

    static void p04_whereThereIsNoneItIsRefused(Due due) {
        Refused.is(due, WhichWord::new, -3, WhichWord::takeBack);
    }

    static void p04_whereAllWereTakenBackItIsRefused(Due due) {
        WhichWord x = Due.of("a", "b");
        due.is("one is left", x.takeBack(), 1);
        due.is("none is left", x.takeBack(), 0);
        due.is("refused", x.takeBack(), -3);
        due.is("again", x.takeBack(), -3);
        due.is("STATE", x.count(13), 2);
        due.is("SCENES", x.count(0), 0);
    }

    static void p04_ofTwentyFourTwentyThreeAreLeft(Due due) {
        due.is("left", Refused.full().takeBack(), 23);
    }

    static void p04_itIsTheLatestThatGoes(Due due) {
        WhichWord x = Due.of("a", "b", "c");
        x.takeBack();
        due.is("the first", x.thing(0, 0), 1);
        due.is("the second", x.thing(1, 0), 2);
        due.is("the third", x.thing(2, 0), -1);
    }

    static void p04_whatWasSaidInItGoesToo(Due due) {
        WhichWord x = Due.of("a", "b");
        Due.sayIn(x, 0, 0, 1);
        Due.sayIn(x, 5, 1);
        x.takeBack();
        due.is("SAID in another too", x.said(0), 1);
        due.is("SAID in it alone", x.said(5), 0);
        due.is("SAID in all", x.count(3), 1);
    }

    static void p04_sayingsOfItGoTooAndOthersStay(Due due) {
        WhichWord x = Due.of("a,b;0x1", "a,b;0x1");
        x.give(0, 0);
        x.give(1, 39);
        x.give(2, 1);
        x.saying(1, 12);
        x.saying(0, 210);
        x.saying(1, 120);
        due.is("none FITS", x.orders(), 0);
        x.takeBack();
        due.is("SAYINGS", x.count(4), 1);
        due.is("whom doing who", x.orders(), 32);
    }

    static void p04_itsNumberIsGivenAgainAndNothingWasSaidInIt(Due due) {
        WhichWord x = Due.of("a", "b");
        Due.sayIn(x, 0, 1);
        x.saying(1, 12);
        x.takeBack();
        due.is("the number", Due.tell(x, "c"), 1);
        due.is("its THING", x.thing(1, 0), 4);
        due.is("MARK c", x.has(1, 2), 1);
        due.is("MARK b", x.has(1, 1), 0);
        due.is("said", x.said(0), 0);
        due.is("SAYINGS", x.count(4), 0);
    }

    static void p04_whatIsGivenWeightsHitAndMissStay(Due due) {
        WhichWord x = Due.of("a");
        x.give(0, 5);
        x.weight(7, 77);
        x.set(0, 66);
        x.set(1, 55);
        x.takeBack();
        due.is("GIVEN", x.give(0, -1), 5);
        due.is("WEIGHT", x.weight(7, 1), 77);
        due.is("HIT", x.set(0, 1), 66);
        due.is("MISS", x.set(1, 1), 55);
    }

    static void p04_theTextStays(Due due) {
        WhichWord x = Due.of("a");
        Due.feedText(x, "b*");
        x.takeBack();
        due.is("bytes", x.count(5), 2);
        due.is("scene", x.scene(), 0);
        due.is("b*", x.thing(0, 0), 66);
    }

    static void p04_theImageStays(Due due) {
        WhichWord x = Due.of("a", "b");
        x.image();
        x.takeBack();
        x.takeBack();
        due.is("restore", x.restore(), 2);
        due.is("the second", x.thing(1, 0), 2);
    }

    static void p04_whatItAlonePartedIsTheSameAgain(Due due) {
        WhichWord x = Due.of("a");
        due.is("never", x.never(), 3829);
        x.takeBack();
        due.is("never again", x.never(), 4005);
    }

    // Promise 5: Of a THING of a SCENE: its MARKS (bits), 64 more if it is HERE; -9 none such. -1 SCENE.

    static void p05_theFirstThingAndTheLast(Due due) {
        WhichWord x = Due.of("a,b*,c,f");
        due.is("thing 0", x.thing(0, 0), 1);
        due.is("thing 3", x.thing(0, 3), 32);
    }

    static void p05_oneMarkAndAllMarks(Due due) {
        WhichWord x = Due.of("a,f,abcdef");
        due.is("a", x.thing(0, 0), 1);
        due.is("f", x.thing(0, 1), 32);
        due.is("abcdef", x.thing(0, 2), 63);
    }

    static void p05_sixtyFourMoreWhereItIsHere(Due due) {
        WhichWord x = Due.of("a*,f*,abcdef*,a");
        due.is("a*", x.thing(0, 0), 65);
        due.is("f*", x.thing(0, 1), 96);
        due.is("abcdef*", x.thing(0, 2), 127);
        due.is("a, AWAY", x.thing(0, 3), 1);
    }

    private static void noSuchThing(Due due, String text, int i) {
        WhichWord x = Due.of(text);
        due.is("thing(0, " + i + ") of " + text, x.thing(0, i), -9);
        due.is("it is no refusal", x.count(11), 0);
    }

    static void p05_noThingBehindTheLast(Due due) {
        noSuchThing(due, "a", 1);
        noSuchThing(due, "a,b", 2);
        noSuchThing(due, "a,b,c", 3);
        noSuchThing(due, "a,b,c,d", 4);
    }

    static void p05_noThingMinusOne(Due due) {
        noSuchThing(due, "a,b,c,d", -1);
    }

    static void p05_noThingOfTheLeastOrGreatestInt(Due due) {
        noSuchThing(due, "a,b,c,d", LEAST);
        noSuchThing(due, "a,b,c,d", GREATEST);
    }

    static void p05_sceneMinusOneIsNobody(Due due) {
        Refused.is(due, -1, x -> x.thing(-1, 0));
    }

    static void p05_theSceneBehindTheLastIsNobody(Due due) {
        Refused.is(due, -1, x -> x.thing(3, 0));
    }

    static void p05_sceneTwentyFourIsNobody(Due due) {
        Refused.is(due, Refused::full, -1, x -> x.thing(24, 0));
    }

    static void p05_sceneTwentyThreeIsTheLastThereCanBe(Due due) {
        due.is("thing", Refused.full().thing(23, 0), 66);
    }

    static void p05_sceneOfTheLeastOrGreatestIntIsNobody(Due due) {
        Refused.is(due, -1, x -> x.thing(LEAST, 0));
        Refused.is(due, -1, x -> x.thing(GREATEST, 0));
    }

    static void p05_theSceneIsLookedAtAheadOfTheThing(Due due) {
        Refused.is(due, -1, x -> x.thing(3, 9));
    }

    // Promise 6: DOING i of a SCENE: 100 who, 10 the doing (0 x ..), whom, together; -9 none such. -1 SCENE.

    static void p06_theFirstDoingAndTheLast(Due due) {
        WhichWord x = Due.of("a,b,c,d;0x1,1y2,3z2");
        due.is("0x1", x.doing(0, 0), 1);
        due.is("1y2", x.doing(0, 1), 112);
        due.is("3z2", x.doing(0, 2), 322);
    }

    static void p06_theLeastAndTheGreatestThatCanBe(Due due) {
        WhichWord x = Due.of("a,b,c,d;0x1,3z2");
        due.is("0x1", x.doing(0, 0), 1);
        due.is("3z2", x.doing(0, 1), 322);
    }

    private static void noSuchDoing(Due due, String text, int i) {
        WhichWord x = Due.of(text);
        due.is("doing(0, " + i + ") of " + text, x.doing(0, i), -9);
        due.is("it is no refusal", x.count(11), 0);
    }

    static void p06_noDoingOfASceneWithout(Due due) {
        noSuchDoing(due, "a,b", 0);
    }

    static void p06_noDoingBehindTheLast(Due due) {
        noSuchDoing(due, "a,b;0x1", 1);
        noSuchDoing(due, "a,b;0x1,0x1", 2);
        noSuchDoing(due, "a,b;0x1,0x1,0x1", 3);
    }

    static void p06_noDoingMinusOne(Due due) {
        noSuchDoing(due, "a,b;0x1,0x1,0x1", -1);
    }

    static void p06_noDoingOfTheLeastOrGreatestInt(Due due) {
        noSuchDoing(due, "a,b;0x1,0x1,0x1", LEAST);
        noSuchDoing(due, "a,b;0x1,0x1,0x1", GREATEST);
    }

    static void p06_sceneMinusOneIsNobody(Due due) {
        Refused.is(due, -1, x -> x.doing(-1, 0));
    }

    static void p06_theSceneBehindTheLastIsNobody(Due due) {
        Refused.is(due, -1, x -> x.doing(3, 0));
    }

    static void p06_sceneTwentyFourIsNobody(Due due) {
        Refused.is(due, Refused::full, -1, x -> x.doing(24, 0));
    }

    static void p06_sceneOfTheLeastOrGreatestIntIsNobody(Due due) {
        Refused.is(due, -1, x -> x.doing(LEAST, 0));
        Refused.is(due, -1, x -> x.doing(GREATEST, 0));
    }

    static void p06_theSceneIsLookedAtAheadOfTheDoing(Due due) {
        Refused.is(due, -1, x -> x.doing(3, 9));
    }
}
