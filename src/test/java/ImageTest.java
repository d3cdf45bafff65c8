/** Promises 31 to 33: image, restore, count. */
public final class ImageTest {
    private static final Due DUE = new Due();

    public static void main(String[] args) {
        imageKeepsAll();
        imageKeepsSayings();
        imageLeavesOut();
        imageOfNothing();
        count();
        DUE.end();
    }

    private static void imageKeepsAll() {
        WhichWord x = Due.of("a,b;0x1", "a*");
        Due.sayIn(x, 0, 0, 1);
        x.weight(4, 44);
        x.set(0, 77);
        x.set(1, 22);
        x.give(0, 0);
        x.give(1, 39);
        x.give(2, 1);
        x.saying(0, 12);
        DUE.is("31: SCENES", x.image(), 2);
        x.takeBack();
        x.takeBack();
        Due.tell(x, "f");
        Due.tell(x, "ef");
        Due.tell(x, "def");
        Due.sayIn(x, 5, 0, 1, 2);
        x.weight(4, 4);
        x.set(0, 7);
        x.set(1, 2);
        x.give(0, 88);
        x.give(1, -1);
        x.saying(0, 345);
        x.saying(0, 345);
        for (int twice = 0; twice < 2; twice++) {
            DUE.is("32: SCENES", x.restore(), 2);
            DUE.is("32: THINGS", x.thing(0, 1), 2);
            DUE.is("32: the second SCENE", x.thing(1, 0), 65);
            DUE.is("32: no third", x.thing(2, 0), -1);
            DUE.is("32: DOINGS", x.doing(0, 0), 1);
            DUE.is("32: what it HAS", x.has(0, 61), 1);
            DUE.is("32: and has not", x.has(0, 5), 0);
            DUE.is("32: SAID", x.said(0), 2);
            DUE.is("32: SAID then", x.said(5), 0);
            DUE.is("32: WEIGHT", x.weight(4, 3), 44);
            DUE.is("32: HIT", x.set(0, 1), 77);
            DUE.is("32: MISS", x.set(1, 1), 22);
            DUE.is("32: SAYINGS", x.count(4), 1);
            DUE.is("32: what FITS", x.orders(), 1);
            DUE.is("32: GIVEN", x.give(0, -1), 0);
            DUE.is("32: GIVEN too", x.give(1, 7), 39);
            DUE.is("32: MEANINGS parted", x.part(0, 1), 1);
            DUE.is("32: and after it is RESTORED one goes on", Due.tell(x, "c"), 2);
            x.saying(2, 543);
            x.saying(1, 543);
            x.say(0, 0, false);
        }
        DUE.is("31: a later one", x.image(), 3);
        x.takeBack();
        DUE.is("32: it is the later one", x.restore(), 3);
        DUE.is("32: its SAYINGS", x.count(4), 3);
    }

    private static void imageKeepsSayings() {
        WhichWord x = Due.of("a,b;0x1", "f");
        x.give(0, 0);
        x.give(1, 39);
        x.give(2, 1);
        x.saying(0, 12);
        x.image();
        x.takeBack();
        x.takeBack();
        Due.tell(x, "f");
        Due.tell(x, "a,b;0x1");
        x.saying(1, 210);
        DUE.is("31: another SAYING", x.orders(), 32);
        x.restore();
        DUE.is("32: SAYINGS, their SCENES and WORDS", x.orders(), 1);
        x.takeBack();
        DUE.is("32: it is of the first SCENE", x.count(4), 1);
    }

    private static void imageLeavesOut() {
        WhichWord x = Due.of("a");
        Due.feedText(x, "b*");
        DUE.is("a REFUSAL", x.kind(90), -1);
        DUE.is("31: one SCENE", x.image(), 1);
        DUE.is("31: the TEXT stays", x.count(5), 2);
        Due.feedText(x, ",c");
        x.kind(90);
        x.feed(0, 0);
        DUE.is("32: one SCENE", x.restore(), 1);
        DUE.is("32: the TEXT is what it was just now", x.count(5), 4);
        DUE.is("32: REFUSALS too", x.count(11), 2);
        DUE.is("32: of another number too", x.count(14), 1);
        DUE.is("32: the TEXT", x.scene(), 1);
        DUE.is("32: b*", x.thing(1, 0), 66);
        DUE.is("32: one SCENE again", x.restore(), 1);
        DUE.is("32: the TEXT has none then", x.count(5), 0);
    }

    private static void imageOfNothing() {
        WhichWord x = new WhichWord();
        DUE.is("32: there is none", x.restore(), -3);
        DUE.is("32: STATE", x.count(13), 1);
        DUE.is("31: of nothing", x.image(), 0);
        Due.tell(x, "a");
        DUE.is("32: no SCENES", x.restore(), 0);
        DUE.is("32: no SCENE", x.has(0, 0), -1);
        DUE.is("32: all is like each other", x.never(), 4005);
        WhichWord y = new WhichWord();
        DUE.is("32: another object has none", y.restore(), -3);
    }

    private static void count() {
        WhichWord x = Due.of("a,b;0x1,1y0", "a*,b,c,d", "a,b,c;0x1");
        Due.sayIn(x, 0, 0, 1, 2);
        Due.sayIn(x, 5, 2);
        x.saying(0, 12);
        x.saying(2, 345);
        Due.feedText(x, "abc");
        long[] due = {3, 9, 3, 4, 2, 3};
        for (int what = 0; what <= 5; what++) {
            DUE.is("33: count(" + what + ")", x.count(what), due[what]);
        }
        x.kind(90);
        x.likelihood(6, 0);
        x.set(2, 0);
        x.chance(0, 0, 2);
        x.two(0, 2);
        x.restore();
        x.feed(0, 0);
        x.feed(9, 0);
        x.feed(9, 0);
        long[] refused = {2, 3, 1, 1, 0, 2};
        for (int what = 11; what <= 16; what++) {
            DUE.is("33: count(" + what + ")", x.count(what), refused[what - 11]);
        }
        int[] others = {-1, 6, 7, 8, 9, 10, 17, 18, Integer.MIN_VALUE, Integer.MAX_VALUE};
        for (int what : others) {
            DUE.is("33: count(" + what + ")", x.count(what), -9);
        }
        DUE.is("33: another what is no refusal", x.count(12), 3);
        x.takeBack();
        long[] after = {2, 6, 2, 2, 1, 3};
        for (int what = 0; what <= 5; what++) {
            DUE.is("33: count(" + what + ") of two SCENES", x.count(what), after[what]);
        }
    }
}
