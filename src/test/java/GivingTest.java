/** Promises 19 to 24: givings, giving, two, give, saying, orders. */
public final class GivingTest {
    private static final Due DUE = new Due();

    public static void main(String[] args) {
        givings();
        givingsOfWordsThatShutOut();
        givingsRefused();
        two();
        give();
        saying();
        orders();
        ordersThatDoNotFit();
        DUE.end();
    }

    private static void givings() {
        WhichWord x = Due.of("a");
        Due.sayIn(x, 0, 0);
        Due.sayIn(x, 1, 0);
        Due.sayIn(x, 2, 0);
        DUE.is("19: one WORD of two MEANINGS", x.givings(1), 2);
        DUE.is("20: its least", x.giving(1, 0), 0);
        DUE.is("19: two of the same two", x.givings(3), 2);
        DUE.is("20: the first has the least", x.giving(3, 0), 0);
        DUE.is("20: the second the other", x.giving(3, 1), 84);
        DUE.is("19: three of two", x.givings(7), 0);
        DUE.is("20: there is none", x.giving(7, 0), -9);
        DUE.is("20: for the last neither", x.giving(7, 2), -9);
        DUE.is("19: all are LEFT", x.givings(8), 90);
        DUE.is("19: 2 times 89", x.givings(9), 178);
        DUE.is("19: 2 times 88", x.givings(11), 176);
        DUE.is("20: what two took is not given", x.giving(11, 3), 1);
        DUE.is("20: nor is it the other way", x.giving(11, 1), 84);
        DUE.is("19: 90 89 88", x.givings(56), 704880);
        DUE.is("20: first", x.giving(56, 3), 0);
        DUE.is("20: second", x.giving(56, 4), 1);
        DUE.is("20: third", x.giving(56, 5), 2);
        DUE.is("20: none is no refusal", x.count(11), 0);
    }

    private static void givingsOfWordsThatShutOut() {
        WhichWord x = Due.of("a", "a*", "b");
        Due.sayIn(x, 0, 0);
        Due.sayIn(x, 1, 0, 1);
        Due.sayIn(x, 4, 0, 2);
        DUE.is("19: one way", x.givings(3), 1);
        DUE.is("20: the first leaves the second its only one", x.giving(3, 0), 84);
        DUE.is("20: the second", x.giving(3, 1), 0);
        DUE.is("19: two that are had by all but the other's", x.givings(7), 88);
        DUE.is("20: the third", x.giving(7, 2), 1);
        DUE.is("19: a WORD without a MEANING", x.givings(16), 0);
        DUE.is("20: has none", x.giving(16, 4), -9);
        DUE.is("20: nor have those with it", x.giving(17, 0), -9);
        DUE.is("19: 0 ways", x.givings(17), 0);
        DUE.is("19: 0 ways behind a full one", x.givings(20), 0);
        DUE.is("20: nor", x.giving(20, 2), -9);
    }

    private static void givingsRefused() {
        WhichWord x = Due.of("a");
        int[] none = {0, 15, 63, 64, 65, -1, Integer.MIN_VALUE, Integer.MAX_VALUE, 128, 71};
        for (int words : none) {
            DUE.is("19: givings(" + words + ")", x.givings(words), -1);
            DUE.is("20: giving(" + words + ", 0)", x.giving(words, 0), -1);
        }
        DUE.is("20: a WORD not of the set", x.giving(6, 0), -1);
        DUE.is("20: WORD -1", x.giving(1, -1), -1);
        DUE.is("20: WORD 6", x.giving(1, 6), -1);
        DUE.is("20: WORD 32", x.giving(1, 32), -1);
        DUE.is("20: NOBODY", x.count(11), 2 * none.length + 4);
    }

    private static void two() {
        WhichWord x = Due.of("a*", "b", "ab", "e,f;0x1");
        DUE.is("21: never SAID", x.two(0, 0), 0);
        DUE.is("21: none", x.two(0, 1), -9);
        Due.sayIn(x, 0, 0);
        DUE.is("21: in one SCENE each of them is LEFT alone", x.two(0, 0), 0);
        Due.sayIn(x, 0, 1);
        DUE.is("21: one of 0, 78 and one of 1, 85", x.two(0, 0), 4);
        DUE.is("21: 0 and 1", x.two(0, 1), 1);
        Due.sayIn(x, 0, 2);
        DUE.is("21: in ab too", x.two(0, 0), 4);
        Due.sayIn(x, 0, 3);
        DUE.is("21: in a fourth, none", x.two(0, 0), 0);
        Due.sayIn(x, 1, 1, 2);
        DUE.is("21: what is LEFT alone does not count", x.two(1, 0), 0);
        DUE.is("21: none is the first", x.two(1, 1), -9);
        Due.sayIn(x, 2, 0, 3);
        DUE.is("21: 2 times 7", x.two(2, 0), 14);
        DUE.is("21: 0 and 4", x.two(2, 1), 4);
        x.takeBack();
        Due.tell(x, "b*,c,d");
        Due.sayIn(x, 3, 1, 3);
        DUE.is("21: 85 and 2, 3, 79, 86, 87", x.two(3, 0), 5);
        DUE.is("21: the first by a", x.two(3, 1), 285);
        DUE.is("21: none is no refusal", x.count(11) + x.count(12), 0);
        DUE.is("21: WORD 6 ahead of OTHER", x.two(6, 2), -1);
        DUE.is("21: WORD -1", x.two(-1, 0), -1);
        DUE.is("21: what 2", x.two(0, 2), -2);
        DUE.is("21: what -1", x.two(0, -1), -2);
        DUE.is("21: NOBODY", x.count(11), 2);
        DUE.is("21: OTHER", x.count(12), 2);
    }

    private static void give() {
        WhichWord x = new WhichWord();
        DUE.is("22: none was", x.give(0, 89), -9);
        DUE.is("22: it was", x.give(0, 0), 89);
        DUE.is("22: it was the first", x.give(0, -1), 0);
        DUE.is("22: none was again", x.give(0, 5), -9);
        DUE.is("22: another WORD", x.give(5, 5), -9);
        DUE.is("22: none is no refusal", x.count(11), 0);
        DUE.is("22: WORD 6", x.give(6, 0), -1);
        DUE.is("22: WORD -1", x.give(-1, -1), -1);
        DUE.is("22: MEANING 90", x.give(0, 90), -1);
        DUE.is("22: MEANING -2", x.give(0, -2), -1);
        DUE.is("22: MEANING -9", x.give(0, -9), -1);
        DUE.is("22: refused, it is as it was", x.give(0, 1), 5);
        DUE.is("22: NOBODY", x.count(11), 5);
    }

    private static void saying() {
        WhichWord x = Due.of("a", "b");
        int[] none = {-1, -12, 0, 11, 101, 110, 111, 600, 612, 162, 126, 666, 909, 999, 1012, 1234,
            Integer.MIN_VALUE, Integer.MAX_VALUE};
        for (int words : none) {
            DUE.is("23: saying(0, " + words + ")", x.saying(0, words), -1);
        }
        DUE.is("23: SCENE 2", x.saying(2, 12), -1);
        DUE.is("23: SCENE -1", x.saying(-1, 12), -1);
        DUE.is("23: NOBODY", x.count(11), none.length + 2);
        DUE.is("23: refused, there is none", x.count(4), 0);
        int[] some = {12, 21, 543, 345, 105};
        for (int i = 0; i < 20; i++) {
            DUE.is("23: how many", x.saying(i % 2, some[i % some.length]), i + 1);
        }
        DUE.is("23: no room", x.saying(0, 12), -6);
        DUE.is("23: NOBODY ahead of ROOM", x.saying(0, 11), -1);
        DUE.is("23: twenty", x.count(4), 20);
        DUE.is("23: ROOM", x.count(16), 1);
        DUE.is("4: ten of them are gone", x.takeBack(), 1);
        DUE.is("23: ten are left", x.count(4), 10);
        DUE.is("23: there is room", x.saying(0, 12), 11);
    }

    private static WhichWord given(String text) {
        WhichWord x = Due.of(text);
        x.give(0, 0);
        x.give(1, 39);
        x.give(2, 1);
        return x;
    }

    private static void orders() {
        int[] byOrder = {12, 21, 102, 120, 201, 210};
        for (int order = 0; order < 6; order++) {
            WhichWord x = given("a,b;0x1");
            DUE.is("24: no SAYING, all FIT", x.orders(), 63);
            x.saying(0, byOrder[order]);
            DUE.is("24: ORDER " + order, x.orders(), 1 << order);
            x.saying(0, byOrder[order]);
            DUE.is("24: twice", x.orders(), 1 << order);
            x.saying(0, byOrder[(order + 1) % 6]);
            DUE.is("24: another ORDER", x.orders(), 0);
        }
        WhichWord both = given("ab,ab;0x1");
        both.saying(0, 12);
        DUE.is("24: who doing whom, whom doing who", both.orders(), 33);
        WhichWord back = given("a,b;0x1,1x0");
        back.saying(0, 102);
        DUE.is("24: doing who whom, doing whom who", back.orders(), 12);
        WhichWord alike = given("a,a;1x0");
        alike.give(2, 0);
        alike.saying(0, 21);
        DUE.is("24: two WORDS of one MARK", alike.orders(), 18);
        WhichWord third = given("a,b,f;0y2,2x1,0z1,");
        DUE.is("24: a FAULT", third.count(0), 0);
        Due.tell(third, "a,b,f;0y2,2x1,0x2");
        third.saying(0, 12);
        DUE.is("24: not by one DOING", third.orders(), 0);
        third.give(2, 5);
        DUE.is("24: the third DOING", third.orders(), 1);
    }

    private static void ordersThatDoNotFit() {
        WhichWord x = given("a,b;0x1");
        x.saying(0, 12);
        int[] noDoings = {-1, 0, 38, 40, 41, 42, 89};
        for (int meaning : noDoings) {
            x.give(1, meaning);
            DUE.is("24: " + meaning + " for the doing", x.orders(), 0);
        }
        x.give(1, 39);
        int[] noMarks = {-1, 2, 6, 39, 60, 78, 84, 85};
        for (int meaning : noMarks) {
            x.give(0, meaning);
            DUE.is("24: " + meaning + " for who", x.orders(), 0);
        }
        x.give(0, 0);
        for (int meaning : noMarks) {
            x.give(2, meaning);
            DUE.is("24: " + meaning + " for whom", x.orders(), 0);
        }
        x.give(2, 1);
        DUE.is("24: it FITS again", x.orders(), 1);
        WhichWord here = given("a*,b*;0x1");
        here.saying(0, 12);
        DUE.is("24: HERE or not", here.orders(), 1);
        here.give(0, 6);
        DUE.is("24: the first that is no MARK, for who", here.orders(), 0);
        here.give(0, 0);
        here.give(2, 6);
        DUE.is("24: for whom", here.orders(), 0);
    }
}
