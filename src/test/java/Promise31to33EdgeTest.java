import java.util.function.Consumer;

/** The boundary cases of promises 31 to 33: image, restore, count. */
public final class Promise31to33EdgeTest {
    private static final int LEAST = Integer.MIN_VALUE;
    private static final int GREATEST = Integer.MAX_VALUE;

    public static void main(String[] args) {
        Edge.runAll(Promise31to33EdgeTest.class, 31, 33);
    }

    // Promise 31 and part IV: THE IMAGE is taken: how many SCENES.

    static void p31_ofNoScenes(Due due) {
        WhichWord x = new WhichWord();
        due.is("image", x.image(), 0);
        Due.tell(x, "a");
        due.is("restore", x.restore(), 0);
        due.is("SCENES", x.count(0), 0);
    }

    static void p31_ofTwentyFourScenesTwentySayingsAndAFullText(Due due) {
        WhichWord x = Refused.full();
        due.is("image", x.image(), 24);
        x.takeBack();
        x.restore();
        due.is("SCENES", x.count(0), 24);
        due.is("SAYINGS", x.count(4), 20);
        due.is("no room", x.scene(), -6);
    }

    static void p31_itChangesNothing(Due due) {
        WhichWord x = Refused.some();
        due.is("image", x.image(), 3);
        due.isText("what there is then", Look.now(x), Look.now(Refused.some()));
    }

    static void p31_aLaterOneStandsForTheEarlier(Due due) {
        WhichWord x = Due.of("a");
        x.image();
        Due.tell(x, "b");
        due.is("the later", x.image(), 2);
        x.takeBack();
        x.takeBack();
        due.is("restore", x.restore(), 2);
    }

    static void p31_anEmptyOneStandsForTheEarlier(Due due) {
        WhichWord x = Due.of("a");
        x.image();
        x.takeBack();
        due.is("the later", x.image(), 0);
        Due.tell(x, "b");
        due.is("restore", x.restore(), 0);
    }

    static void p31_itIsNoRefusal(Due due) {
        WhichWord x = new WhichWord();
        x.image();
        for (int what = 11; what <= 16; what++) {
            due.is("count(" + what + ")", x.count(what), 0);
        }
    }

    // Promise 32: It is RESTORED: how many SCENES. -3 there is none.

    private static WhichWord withoutImage() {
        WhichWord x = Due.of("a,b;0x1", "b*");
        Due.sayIn(x, 0, 0);
        Due.feedText(x, "c");
        return x;
    }

    static void p32_whereThereIsNoneItIsRefused(Due due) {
        Refused.is(due, Promise31to33EdgeTest::withoutImage, -3, WhichWord::restore);
        Refused.is(due, WhichWord::new, -3, WhichWord::restore);
    }

    static void p32_rightBehindTheImageNothingChanges(Due due) {
        WhichWord x = Refused.some();
        x.image();
        due.is("restore", x.restore(), 3);
        due.isText("what there is then", Look.now(x), Look.now(Refused.some()));
    }

    /** What was done behind the IMAGE is undone by restore, and what is done behind that by another. */
    private static void undoes(Due due, Consumer<WhichWord> change) {
        WhichWord x = Refused.some();
        x.image();
        change.accept(x);
        x.restore();
        due.isText("RESTORED", Look.now(x), Look.now(Refused.some()));
        change.accept(x);
        due.is("again", x.restore(), 3);
        due.isText("RESTORED again", Look.now(x), Look.now(Refused.some()));
    }

    static void p32_aSceneThatCameGoes(Due due) {
        undoes(due, x -> {
            x.scene();
            x.say(3, 0, true);
            x.saying(3, 12);
            Due.feedText(x, "ab*,d");
        });
    }

    static void p32_aSceneThatWentComes(Due due) {
        undoes(due, WhichWord::takeBack);
    }

    static void p32_allScenesThatWentCome(Due due) {
        undoes(due, x -> {
            x.takeBack();
            x.takeBack();
            x.takeBack();
        });
    }

    static void p32_aSceneInPlaceOfAnotherGoes(Due due) {
        undoes(due, x -> {
            x.takeBack();
            x.scene();
            Due.feedText(x, "ab*,d");
        });
    }

    static void p32_whatWasSaidIsAsItWas(Due due) {
        undoes(due, x -> {
            x.say(0, 0, false);
            x.say(2, 5, true);
        });
    }

    static void p32_weightsAreAsTheyWere(Due due) {
        undoes(due, x -> {
            x.weight(0, 98);
            x.weight(7, 97);
        });
    }

    static void p32_hitIsAsItWas(Due due) {
        undoes(due, x -> x.set(0, 100));
    }

    static void p32_missIsAsItWas(Due due) {
        undoes(due, x -> x.set(1, 0));
    }

    static void p32_whatWasGivenIsAsItWas(Due due) {
        undoes(due, x -> {
            x.give(0, -1);
            x.give(5, 89);
        });
    }

    static void p32_sayingsAreAsTheyWere(Due due) {
        undoes(due, x -> {
            x.saying(0, 21);
            x.saying(0, 345);
        });
    }

    /** Two SAYINGS of SCENE 0, one of SCENE 1, which WORDS 0, 1, 2 as a, x, b FIT in ORDER 0. */
    private static WhichWord withSayings() {
        WhichWord x = Due.of("a,b;0x1", "a,b;0x1");
        x.give(0, 0);
        x.give(1, 39);
        x.give(2, 1);
        x.saying(0, 12);
        x.saying(0, 12);
        x.saying(1, 12);
        return x;
    }

    static void p32_sayingsHaveTheirWordsAgain(Due due) {
        WhichWord x = withSayings();
        x.image();
        x.takeBack();
        x.takeBack();
        Due.tell(x, "a,b;0x1");
        x.saying(0, 21);
        x.saying(0, 21);
        x.saying(0, 21);
        due.is("others", x.orders(), 2);
        x.restore();
        due.is("orders", x.orders(), 1);
    }

    static void p32_sayingsAreOfTheirScenesAgain(Due due) {
        WhichWord x = withSayings();
        x.image();
        x.takeBack();
        x.takeBack();
        Due.tell(x, "a");
        Due.tell(x, "a");
        x.saying(1, 12);
        x.saying(1, 12);
        x.saying(1, 12);
        x.restore();
        due.is("orders", x.orders(), 1);
        x.takeBack();
        due.is("those of SCENE 0", x.count(4), 2);
    }

    static void p32_theTextIsNotOfTheImage(Due due) {
        WhichWord x = Due.of("a");
        Due.feedText(x, "b");
        x.image();
        Due.feedText(x, "c*");
        x.restore();
        due.is("bytes", x.count(5), 3);
        due.is("scene", x.scene(), 1);
        due.is("bc*", x.thing(1, 0), 70);
        x.restore();
        due.is("no bytes", x.count(5), 0);
    }

    static void p32_refusalsAreNotOfTheImage(Due due) {
        WhichWord x = Due.of("a");
        x.kind(90);
        x.image();
        x.kind(90);
        x.set(2, 0);
        x.restore();
        due.is("NOBODY", x.count(11), 2);
        due.is("OTHER", x.count(12), 1);
    }

    static void p32_theImageIsNotOfTheImage(Due due) {
        WhichWord x = new WhichWord();
        x.image();
        due.is("of nothing", x.restore(), 0);
        due.is("it is still there", x.restore(), 0);
        Due.tell(x, "a");
        x.image();
        x.takeBack();
        due.is("the later", x.restore(), 1);
        due.is("the later still", x.restore(), 1);
    }

    static void p32_ofAnotherObjectThereIsNone(Due due) {
        WhichWord x = Due.of("a");
        x.image();
        due.is("restore", new WhichWord().restore(), -3);
    }

    // Promise 33: count; -9 for another what.

    private static void counts(Due due, WhichWord x, int... answers) {
        for (int what = 0; what < answers.length; what++) {
            due.is("count(" + what + ")", x.count(what), answers[what]);
        }
    }

    static void p33_ofNothing(Due due) {
        counts(due, new WhichWord(), 0, 0, 0, 0, 0, 0);
    }

    static void p33_ofTheMostThereCanBe(Due due) {
        WhichWord x = new WhichWord();
        for (int i = 0; i < 24; i++) {
            Due.tell(x, "a,b,c,d;0x1,1y2,3z0");
            for (int word = 0; word < 6; word++) {
                x.say(i, word, true);
            }
        }
        for (int i = 0; i < 20; i++) {
            x.saying(23, 12);
        }
        for (int i = 0; i < 5; i++) {
            x.feed(8, 0);
        }
        counts(due, x, 24, 96, 72, 144, 20, 40);
        x.takeBack();
        counts(due, x, 23, 92, 69, 138, 0, 40);
    }

    private static void isAnotherWhat(Due due, int... whats) {
        WhichWord x = Refused.some();
        int[] before = new int[17];
        for (int what = 11; what <= 16; what++) {
            before[what] = x.count(what);
        }
        for (int what : whats) {
            due.is("count(" + what + ")", x.count(what), -9);
        }
        for (int what = 11; what <= 16; what++) {
            due.is("it is no refusal " + what, x.count(what), before[what]);
        }
    }

    static void p33_sixToTenAreOthers(Due due) {
        isAnotherWhat(due, 6, 7, 8, 9, 10);
    }

    static void p33_seventeenIsAnother(Due due) {
        isAnotherWhat(due, 17, 18, 27);
    }

    static void p33_minusOneIsAnother(Due due) {
        isAnotherWhat(due, -1, -5, -11, -16);
    }

    static void p33_theLeastAndTheGreatestIntAreOthers(Due due) {
        isAnotherWhat(due, LEAST, GREATEST);
    }

    private static void refusedBy(Due due, WhichWord x, int what) {
        for (int other = 11; other <= 16; other++) {
            due.is("count(" + other + ")", x.count(other), other == what ? 2 : 0);
        }
    }

    static void p33_elevenAreRefusalsMinusOne(Due due) {
        WhichWord x = new WhichWord();
        x.said(6);
        x.kind(-1);
        refusedBy(due, x, 11);
    }

    static void p33_twelveAreRefusalsMinusTwo(Due due) {
        WhichWord x = new WhichWord();
        x.set(2, 1);
        x.two(0, 2);
        refusedBy(due, x, 12);
    }

    static void p33_thirteenAreRefusalsMinusThree(Due due) {
        WhichWord x = new WhichWord();
        x.takeBack();
        x.restore();
        refusedBy(due, x, 13);
    }

    static void p33_fourteenAreRefusalsMinusFour(Due due) {
        WhichWord x = new WhichWord();
        x.feed(0, 0);
        x.weight(0, 0);
        refusedBy(due, x, 14);
    }

    static void p33_fifteenAreNone(Due due) {
        WhichWord x = Refused.some();
        x.feed(0, 0);
        x.feed(9, 0);
        due.is("count(15)", x.count(15), 0);
    }

    static void p33_sixteenAreRefusalsMinusSix(Due due) {
        WhichWord x = new WhichWord();
        x.feed(9, 0);
        x.left(0, 4, 0);
        refusedBy(due, x, 16);
    }

    static void p33_refusalsOfLongsAreCountedByTheirNumber(Due due) {
        WhichWord x = new WhichWord();
        x.likelihood(6, 0);
        x.chance(0, 90, 0);
        refusedBy(due, x, 11);
        WhichWord y = new WhichWord();
        y.chance(0, 0, 2);
        y.chance(6, 90, -1);
        refusedBy(due, y, 12);
    }

    static void p33_minusNineIsNoRefusal(Due due) {
        WhichWord x = Due.of("a");
        Due.sayIn(x, 0, 0);
        due.is("thing", x.thing(0, 1), -9);
        due.is("doing", x.doing(0, 0), -9);
        due.is("left", x.left(0, 0, 2), -9);
        due.is("judge", x.judge(0, 0), -9);
        due.is("two", x.two(0, 1), -9);
        due.is("give", x.give(0, 0), -9);
        due.is("next", x.next(0), -9);
        due.is("help", x.help(0, 0, 1), -9);
        due.is("part", x.part(0, 0), -9);
        due.is("count", x.count(6), -9);
        for (int what = 11; what <= 16; what++) {
            due.is("count(" + what + ")", x.count(what), 0);
        }
    }

    static void p33_manyRefusalsAreAllCounted(Due due) {
        WhichWord x = new WhichWord();
        for (int i = 0; i < 500; i++) {
            x.kind(90);
        }
        due.is("NOBODY", x.count(11), 500);
    }

    static void p33_askingForCountsChangesNothing(Due due) {
        WhichWord x = Refused.some();
        for (int what = -2; what < 20; what++) {
            x.count(what);
        }
        due.isText("what there is then", Look.whole(x), Look.whole(Refused.some()));
    }
}
