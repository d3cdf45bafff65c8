/** Promises 1 to 6: a new object, feed, scene, takeBack, thing, doing. */
public final class SceneTest {
    private static final Due DUE = new Due();

    public static void main(String[] args) {
        newObject();
        feed();
        sceneOrFault();
        sceneRefused();
        takeBack();
        thing();
        doing();
        DUE.end();
    }

    private static void newObject() {
        WhichWord x = new WhichWord();
        for (int what = 0; what <= 5; what++) {
            DUE.is("1: count(" + what + ")", x.count(what), 0);
        }
        for (int what = 11; what <= 16; what++) {
            DUE.is("1: count(" + what + ")", x.count(what), 0);
        }
        for (int word = 0; word < 6; word++) {
            DUE.is("1: said", x.said(word), 0);
            DUE.is("1: left", x.left(word, 0, -1), 90);
            DUE.is("1: give", x.give(word, -1), -9);
        }
        for (int kind = 0; kind < 8; kind++) {
            DUE.is("1: weight", x.weight(kind, 10), 10);
        }
        DUE.is("1: HIT", x.set(0, 90), 90);
        DUE.is("1: MISS", x.set(1, 10), 10);
        DUE.is("1: has no SCENE", x.has(0, 0), -1);
        DUE.is("1: no IMAGE", x.restore(), -3);
    }

    private static void feed() {
        WhichWord x = new WhichWord();
        DUE.is("2: feed 0", x.feed(0, 97), -4);
        DUE.is("2: feed -1", x.feed(-1, 97), -4);
        DUE.is("2: feed least int", x.feed(Integer.MIN_VALUE, 97), -4);
        DUE.is("2: feed 9", x.feed(9, 97), -6);
        DUE.is("2: feed greatest int", x.feed(Integer.MAX_VALUE, 97), -6);
        DUE.is("2: refused bytes do not come", x.count(5), 0);
        DUE.is("2: one byte", x.feed(1, 0x2a2a61L), 1);
        DUE.is("2: two bytes, the lowest first", x.feed(2, 0x2c62L), 3);
        DUE.is("2: one more", x.feed(1, 'c'), 4);
        DUE.is("2: ab,c", x.scene(), 0);
        DUE.is("2: ab", x.thing(0, 0), 3);
        DUE.is("2: c", x.thing(0, 1), 4);
        for (int i = 1; i <= 4; i++) {
            DUE.is("2: eight bytes", x.feed(8, -1L), 8 * i);
        }
        DUE.is("2: four bytes", x.feed(4, 0), 36);
        DUE.is("2: five are too many", x.feed(5, 0), -6);
        DUE.is("2: four are not", x.feed(4, 0), 40);
        DUE.is("2: one is", x.feed(1, 0), -6);
        DUE.is("2: none is below, full or not", x.feed(0, 0), -4);
        DUE.is("2: the TEXT is as it was", x.count(5), 40);
        DUE.is("2: BELOW", x.count(14), 4);
        DUE.is("2: ROOM", x.count(16), 4);
        DUE.is("2: byte 255", x.scene(), -20);
    }

    private static void sceneOrFault() {
        Object[] rows = {
            "", -20, "g", -20, "*", -20, ",", -20, ";", -20, "A", -20, "0", -20, " ", -20,
            "\u0000", -20, "\u00e1", -20, "`", -20,
            "a,", -22, "a,,", -22, "a,;", -22, "a,*", -22, "a,g", -22, "a**", -22, "a*b", -22, "aa", -21,
            "ba", -21, "acb", -22, "abcdefa", -26, "abcdefg", -26, "a b", -21, "a0", -21,
            "a;", -22, "a;0", -23, "a;0x", -24, "a;0x0", -24, "a;0x1", -24, "a;1", -22, "a;x", -22,
            "a,b;", -24, "a,b;2x0", -24, "a,b;/x0", -24, "a,b;0", -25, "a,b;0w1", -25, "a,b;0{1", -25, "a,b;01", -25,
            "a,b;0x", -26, "a,b;0x0", -26, "a,b;0x2", -26, "a,b;1y1", -26, "a,b;0x,", -26,
            "a,b;0x1,", -28, "a,b;0x1,,", -28, "a,b;0x1,2", -28, "a,b;0x1;", -27, "a,b;0x1a", -27, "a,b;0x1*", -27,
            "a,b;0x1,1y0,0z1,", -35, "a,b;0x1,1y0,0z1,0", -35, "a,b;0x1,1y0,0z1;", -35,
            "a,b,c,d,e", -27, "a,b,c,d,", -27, "a,b,c,d,,", -27, "a,b,c,d*,e", -28, "a,b,c,d*e", -28,
            "a,b,c;3x0", -26, "a,b,c,d;4x0", -28, "a,b,c,d;0x4", -30,
            "abcdef*,abcdef*,abcdef*,abcdef*;0x1,1y2,", -60,
        };
        WhichWord x = new WhichWord();
        for (int i = 0; i < rows.length; i += 2) {
            DUE.is("3: '" + rows[i] + "'", Due.tell(x, (String) rows[i]), (Integer) rows[i + 1]);
            DUE.is("3: the TEXT has none then", x.count(5), 0);
        }
        DUE.is("3: no FAULT is a SCENE", x.count(0), 0);
        for (int what = 11; what <= 16; what++) {
            DUE.is("3: no FAULT is counted", x.count(what), 0);
        }
        String[] fine = {
            "a", "f", "a*", "abcdef", "abcdef*", "a,a,a,a", "a,b;0x1", "a,b;1z0,1z0,1z0", "a,b,c,d;3z0,0x3,2y1",
            "abcdef,abcdef,abcdef,abcdef*;0x1,1y2,2z3",
        };
        for (int i = 0; i < fine.length; i++) {
            DUE.is("3: '" + fine[i] + "'", Due.tell(x, fine[i]), i);
            DUE.is("3: the TEXT has none then", x.count(5), 0);
        }
        DUE.is("3: SCENES", x.count(0), fine.length);
    }

    private static void sceneRefused() {
        WhichWord x = new WhichWord();
        for (int i = 0; i < 24; i++) {
            DUE.is("3: SCENE " + i, Due.tell(x, "a"), i);
        }
        Due.feedText(x, "b*");
        DUE.is("3: no room", x.scene(), -6);
        DUE.is("3: refused, the TEXT stays", x.count(5), 2);
        DUE.is("3: ROOM", x.count(16), 1);
        DUE.is("3: 23 are left", x.takeBack(), 23);
        DUE.is("3: there is room", x.scene(), 23);
        DUE.is("3: the TEXT was b*", x.thing(23, 0), 66);
        Due.feedText(x, "g");
        DUE.is("3: no room for a FAULT either", x.scene(), -6);
        DUE.is("3: it stays", x.count(5), 1);
    }

    private static void takeBack() {
        WhichWord x = new WhichWord();
        DUE.is("4: there is none", x.takeBack(), -3);
        DUE.is("4: STATE", x.count(13), 1);
        Due.tell(x, "a,b;0x1");
        Due.tell(x, "c*");
        Due.sayIn(x, 0, 0, 1);
        Due.sayIn(x, 5, 1);
        x.give(0, 0);
        x.weight(0, 7);
        x.set(0, 80);
        x.saying(1, 12);
        x.saying(0, 12);
        x.saying(1, 210);
        Due.feedText(x, "d");
        DUE.is("4: one is left", x.takeBack(), 1);
        DUE.is("4: it is gone", x.thing(1, 0), -1);
        DUE.is("4: what was SAID in it, too", x.said(0), 1);
        DUE.is("4: and by another WORD", x.said(5), 0);
        DUE.is("4: and SAYINGS of it", x.count(4), 1);
        DUE.is("4: the TEXT stays", x.count(5), 1);
        DUE.is("4: what is GIVEN stays", x.give(0, 0), 0);
        DUE.is("4: WEIGHTS stay", x.weight(0, 7), 7);
        DUE.is("4: HIT stays", x.set(0, 80), 80);
        DUE.is("4: the next has its number", x.scene(), 1);
        DUE.is("4: and HAS what it HAS", x.has(1, 3), 1);
        DUE.is("4: and not what the other HAD", x.has(1, 2), 0);
        DUE.is("4: nothing was SAID in it", x.count(3), 1);
        x.give(1, 39);
        x.give(2, 1);
        DUE.is("4: the SAYING that is left", x.orders(), 1);
        DUE.is("4: one", x.takeBack(), 1);
        DUE.is("4: none", x.takeBack(), 0);
        DUE.is("4: no SAYING", x.orders(), 63);
        DUE.is("4: there is none again", x.takeBack(), -3);
        DUE.is("4: MEANINGS are like each other again", x.never(), 4005);
        sayingsThatStay();
    }

    private static void sayingsThatStay() {
        WhichWord x = Due.of("a,b;0x1", "a,b;0y1");
        x.give(0, 0);
        x.give(1, 39);
        x.give(2, 1);
        x.saying(1, 12);
        x.saying(0, 210);
        x.saying(1, 102);
        x.takeBack();
        DUE.is("4: a SAYING behind one that went stays what it was", x.orders(), 32);
        Due.tell(x, "a");
        DUE.is("4: and of its SCENE", x.orders(), 32);
    }

    private static void thing() {
        WhichWord x = Due.of("a,bc*,abcdef,f*");
        DUE.is("5: a", x.thing(0, 0), 1);
        DUE.is("5: bc*", x.thing(0, 1), 70);
        DUE.is("5: abcdef", x.thing(0, 2), 63);
        DUE.is("5: f*", x.thing(0, 3), 96);
        int[] none = {-1, 4, 5, Integer.MIN_VALUE, Integer.MAX_VALUE};
        for (int i : none) {
            DUE.is("5: THING " + i, x.thing(0, i), -9);
        }
        DUE.is("5: none such is no refusal", x.count(11), 0);
        DUE.is("5: SCENE -1", x.thing(-1, 0), -1);
        DUE.is("5: SCENE 1", x.thing(1, 0), -1);
        DUE.is("5: SCENE 24", x.thing(24, 9), -1);
        DUE.is("5: SCENE least int", x.thing(Integer.MIN_VALUE, 0), -1);
        DUE.is("5: NOBODY", x.count(11), 4);
    }

    private static void doing() {
        WhichWord x = Due.of("a,b,c,d;3z0,0x3,2y1", "a");
        DUE.is("6: 3z0", x.doing(0, 0), 320);
        DUE.is("6: 0x3", x.doing(0, 1), 3);
        DUE.is("6: 2y1", x.doing(0, 2), 211);
        int[] none = {-1, 3, Integer.MIN_VALUE, Integer.MAX_VALUE};
        for (int i : none) {
            DUE.is("6: DOING " + i, x.doing(0, i), -9);
        }
        DUE.is("6: a SCENE without", x.doing(1, 0), -9);
        DUE.is("6: none such is no refusal", x.count(11), 0);
        DUE.is("6: SCENE -1", x.doing(-1, 0), -1);
        DUE.is("6: SCENE 2", x.doing(2, 0), -1);
        DUE.is("6: SCENE greatest int", x.doing(Integer.MAX_VALUE, 0), -1);
        DUE.is("6: NOBODY", x.count(11), 3);
    }
}
