/** Promises 25 to 30: next, enough, help, never, same, part. */
public final class ChoosingTest {
    private static final Due DUE = new Due();

    public static void main(String[] args) {
        next();
        enough();
        help();
        helpRefused();
        onlyTheFirstTwelve();
        never();
        sameAndPart();
        DUE.end();
    }

    private static void next() {
        WhichWord x = new WhichWord();
        DUE.is("25: none is SHOWN", x.next(0), -9);
        Due.tell(x, "a");
        Due.tell(x, "ab");
        Due.tell(x, "a,b;0x1");
        Due.tell(x, "b,a;1x0");
        DUE.is("25: 83 against 7", x.next(0), 2);
        Due.sayIn(x, 0, 2);
        DUE.is("25: 3 against 4", x.next(0), 1);
        Due.sayIn(x, 0, 1);
        DUE.is("25: 2 against 2, 4 against 0", x.next(0), 0);
        Due.sayIn(x, 0, 0);
        DUE.is("25: the only one", x.next(0), 3);
        Due.sayIn(x, 0, 3);
        DUE.is("25: none is SHOWN again", x.next(0), -9);
        DUE.is("25: another WORD's", x.next(5), 2);
        DUE.is("25: WORD 6", x.next(6), -1);
        DUE.is("25: WORD -1", x.next(-1), -1);
        DUE.is("25: NOBODY", x.count(11), 2);
        WhichWord y = Due.of("a", "b", "c", "c");
        Due.sayIn(y, 0, 0, 1);
        DUE.is("25: nothing is LEFT, the least", y.next(0), 2);
        DUE.is("25: all are LEFT, all SCENES alike, the least", y.next(1), 0);
        WhichWord late = new WhichWord();
        for (int i = 0; i < 23; i++) {
            Due.tell(late, "a");
        }
        Due.tell(late, "ab");
        DUE.is("25: the last SCENE there can be", late.next(0), 23);
    }

    private static void enough() {
        WhichWord x = new WhichWord();
        DUE.is("26: none is SHOWN, none is needed", x.enough(0), 0);
        Due.tell(x, "a");
        DUE.is("26: one", x.enough(0), 1);
        Due.tell(x, "a");
        DUE.is("26: the least of two", x.enough(0), 1);
        Due.tell(x, "b");
        DUE.is("26: two", x.enough(0), 5);
        Due.tell(x, "c");
        DUE.is("26: three", x.enough(0), 13);
        Due.tell(x, "d");
        DUE.is("26: no three are", x.enough(0), -9);
        Due.sayIn(x, 0, 2);
        DUE.is("26: of what is LEFT no two are parted", x.enough(0), 0);
        DUE.is("26: another WORD's", x.enough(1), -9);
        DUE.is("26: none is no refusal", x.count(11), 0);
        DUE.is("26: WORD 6", x.enough(6), -1);
        DUE.is("26: WORD -1", x.enough(-1), -1);
        DUE.is("26: NOBODY", x.count(11), 2);
        WhichWord y = Due.of("a", "ab", "a,b;0x1");
        Due.sayIn(y, 0, 2);
        DUE.is("26: both", y.enough(0), 3);
        WhichWord z = Due.of("abc", "ab", "a", "ac", "abc*");
        Due.sayIn(z, 0, 0);
        DUE.is("26: seven unlike by three", z.enough(0), 26);
        z.say(2, 0, true);
        DUE.is("26: 0 and 84", z.enough(0), 16);
    }

    private static void help() {
        WhichWord x = Due.of("a", "ab", "a,b;0x1", "a*");
        Due.sayIn(x, 0, 2);
        DUE.is("27: the one by which fewest are LEFT", x.help(0, 0, 1), 8);
        DUE.is("27: 84 is not in a*", x.help(0, 84, 1), 1);
        DUE.is("27: b is in one", x.help(0, 1, 1), 2);
        DUE.is("27: of two pairs by which one is LEFT the least", x.help(0, 0, 2), 9);
        DUE.is("27: three", x.help(0, 0, 3), 11);
        DUE.is("27: there are not two", x.help(0, 1, 2), -9);
        DUE.is("27: there is not one", x.help(0, 39, 1), -9);
        DUE.is("27: not LEFT", x.help(0, 2, 1), -3);
        x.say(0, 0, true);
        DUE.is("27: one less is SHOWN", x.help(0, 84, 1), 2);
        DUE.is("27: there are not three", x.help(0, 0, 3), -9);
        WhichWord y = Due.of("b,c;0x1", "a,b;0x1");
        DUE.is("27: seven by either, the least", y.help(0, 39, 1), 1);
    }

    private static void helpRefused() {
        WhichWord x = Due.of("a", "b");
        Due.sayIn(x, 0, 0);
        DUE.is("27: WORD 6 ahead of all", x.help(6, 5, 0), -1);
        DUE.is("27: WORD -1", x.help(-1, 0, 1), -1);
        DUE.is("27: MEANING 90 ahead of ROOM", x.help(0, 90, 4), -1);
        DUE.is("27: MEANING -1", x.help(0, -1, 1), -1);
        DUE.is("27: n 0 ahead of STATE", x.help(0, 5, 0), -4);
        DUE.is("27: n -1", x.help(0, 0, -1), -4);
        DUE.is("27: n 4 ahead of STATE", x.help(0, 5, 4), -6);
        DUE.is("27: not LEFT, nor SHOWN", x.help(0, 5, 1), -3);
        DUE.is("27: none is no refusal", x.help(0, 0, 1), -9);
        DUE.is("27: NOBODY", x.count(11), 4);
        DUE.is("27: BELOW", x.count(14), 2);
        DUE.is("27: ROOM", x.count(16), 1);
        DUE.is("27: STATE", x.count(13), 1);
        DUE.is("27: nothing was SAID by it", x.count(3), 1);
    }

    private static void onlyTheFirstTwelve() {
        WhichWord x = new WhichWord();
        for (int i = 0; i < 12; i++) {
            Due.tell(x, "f");
        }
        Due.tell(x, "a");
        Due.tell(x, "ab");
        DUE.is("25: NEXT is of all", x.next(0), 13);
        DUE.is("26: ENOUGH of the first twelve", x.enough(0), 1);
        DUE.is("27: HELPER of the first twelve", x.help(0, 0, 1), -9);
        DUE.is("27: the least as bits", x.help(0, 5, 3), 7);
        x.say(4, 0, true);
        DUE.is("26: the twelve are now others", x.enough(0), 0);
        x.say(4, 0, false);
        x.say(0, 1, true);
        x.say(1, 1, true);
        x.say(0, 1, false);
        x.say(1, 1, false);
        DUE.is("26: as if nothing was SAID", x.enough(1), 1);
        WhichWord y = new WhichWord();
        Due.tell(y, "ab");
        for (int i = 0; i < 10; i++) {
            Due.tell(y, "ab");
        }
        Due.tell(y, "ab");
        Due.tell(y, "b");
        Due.tell(y, "a");
        y.say(0, 0, true);
        DUE.is("26: the twelfth SHOWN is SCENE 12", y.enough(0), 1 << 12);
        DUE.is("27: it is the HELPER's", y.help(0, 1, 1), 1 << 12);
        DUE.is("27: with the least of the others", y.help(0, 1, 2), 1 << 12 | 2);
        DUE.is("27: SCENE 13 is not", y.help(0, 0, 1), 2);
    }

    private static void never() {
        WhichWord x = new WhichWord();
        DUE.is("28: no SCENE, all pairs", x.never(), 4005);
        Due.tell(x, "a");
        DUE.is("28: 2 and 88", x.never(), 3829);
        Due.tell(x, "a*");
        DUE.is("28: 1, 1, 1 and 87", x.never(), 3741);
        x.say(0, 0, true);
        DUE.is("28: of all told, SAID or not", x.never(), 3741);
        x.takeBack();
        DUE.is("28: TAKEN BACK", x.never(), 3829);
    }

    private static void sameAndPart() {
        WhichWord x = new WhichWord();
        DUE.is("29: no SCENE", x.same(0, 89), 1);
        DUE.is("30: no SCENE", x.part(0, 89), -9);
        Due.tell(x, "a");
        Due.tell(x, "a*");
        DUE.is("29: parted", x.same(0, 84), 0);
        DUE.is("30: by the second", x.part(0, 84), 1);
        DUE.is("30: by the first", x.part(0, 78), 0);
        DUE.is("30: by both, the first", x.part(84, 78), 0);
        DUE.is("30: the other way", x.part(84, 0), 1);
        DUE.is("29: the other way", x.same(84, 0), 0);
        DUE.is("29: neither is had", x.same(1, 2), 1);
        DUE.is("30: none", x.part(1, 2), -9);
        DUE.is("29: one with itself", x.same(0, 0), 1);
        DUE.is("30: one with itself", x.part(0, 0), -9);
        DUE.is("29: none is no refusal", x.count(11), 0);
        int[] none = {-1, 90, Integer.MIN_VALUE, Integer.MAX_VALUE};
        for (int meaning : none) {
            DUE.is("29: same(" + meaning + ", 0)", x.same(meaning, 0), -1);
            DUE.is("29: same(0, " + meaning + ")", x.same(0, meaning), -1);
            DUE.is("30: part(" + meaning + ", 0)", x.part(meaning, 0), -1);
            DUE.is("30: part(0, " + meaning + ")", x.part(0, meaning), -1);
        }
        DUE.is("30: NOBODY", x.count(11), 4 * none.length);
    }
}
