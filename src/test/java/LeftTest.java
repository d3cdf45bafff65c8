/** Promises 12 to 14: left, plainest, judge. */
public final class LeftTest {
    private static final Due DUE = new Due();

    public static void main(String[] args) {
        left();
        leftRefused();
        plainest();
        judge();
        DUE.end();
    }

    private static WhichWord saidInThree() {
        WhichWord x = Due.of("a", "a*", "b", "f");
        Due.sayIn(x, 0, 0, 1);
        Due.sayIn(x, 1, 0, 1, 2);
        Due.sayIn(x, 2, 0, 1, 2, 3);
        return x;
    }

    private static void leftIs(WhichWord x, int word, int slips, int... meanings) {
        DUE.is("12: how many", x.left(word, slips, -1), meanings.length);
        for (int i = 0; i < meanings.length; i++) {
            DUE.is("12: left(" + word + ", " + slips + ", " + i + ")", x.left(word, slips, i), meanings[i]);
        }
        DUE.is("12: none such", x.left(word, slips, meanings.length), -9);
        DUE.is("12: none such far off", x.left(word, slips, Integer.MAX_VALUE), -9);
    }

    private static void left() {
        WhichWord x = saidInThree();
        leftIs(x, 0, 0, 0);
        leftIs(x, 0, 1, 0, 78, 84);
        DUE.is("12: two SCENES, two SLIPS", x.left(0, 2, -1), 90);
        leftIs(x, 1, 0);
        leftIs(x, 1, 1, 0);
        leftIs(x, 1, 2, 0, 1, 78, 84, 85);
        DUE.is("12: three SCENES, three SLIPS", x.left(1, 3, -1), 90);
        leftIs(x, 2, 1);
        leftIs(x, 2, 2, 0);
        leftIs(x, 2, 3, 0, 1, 5, 78, 84, 85, 89);
        DUE.is("12: never SAID, all", x.left(3, 0, -1), 90);
        DUE.is("12: the last of all", x.left(3, 0, 89), 89);
        DUE.is("12: none behind it", x.left(3, 0, 90), -9);
        x.say(1, 0, false);
        leftIs(x, 0, 0, 0, 84);
    }

    private static void leftRefused() {
        WhichWord x = saidInThree();
        DUE.is("12: WORD 6 ahead of BELOW", x.left(6, -1, -2), -1);
        DUE.is("12: WORD -1", x.left(-1, 0, 0), -1);
        DUE.is("12: SLIPS -1", x.left(0, -1, 0), -4);
        DUE.is("12: i -2", x.left(0, 0, -2), -4);
        DUE.is("12: i -2 ahead of SLIPS 4", x.left(0, 4, -2), -4);
        DUE.is("12: SLIPS 4", x.left(0, 4, 0), -6);
        DUE.is("12: NOBODY", x.count(11), 2);
        DUE.is("12: BELOW", x.count(14), 3);
        DUE.is("12: ROOM", x.count(16), 1);
    }

    private static void plainest() {
        WhichWord x = saidInThree();
        DUE.is("13: the only one", x.plainest(0, 0), 0);
        DUE.is("13: the least of several", x.plainest(0, 1), 0);
        x.weight(7, 11);
        DUE.is("13: AWAY weighs more", x.plainest(0, 1), 84);
        DUE.is("13: but is not LEFT", x.plainest(0, 0), 0);
        x.weight(6, 11);
        DUE.is("13: HERE weighs as much", x.plainest(0, 1), 78);
        x.weight(2, 99);
        DUE.is("13: all are LEFT", x.plainest(0, 2), 21);
        DUE.is("13: none is LEFT", x.plainest(1, 0), -9);
        for (int kind = 0; kind < 8; kind++) {
            x.weight(kind, 1);
        }
        DUE.is("13: of the least WEIGHT", x.plainest(0, 0), 0);
        DUE.is("13: WORD 6 ahead of BELOW", x.plainest(6, -1), -1);
        DUE.is("13: WORD -1 ahead of ROOM", x.plainest(-1, 4), -1);
        DUE.is("13: SLIPS -1", x.plainest(0, -1), -4);
        DUE.is("13: SLIPS 4", x.plainest(0, 4), -6);
        DUE.is("13: SLIPS 3", x.plainest(0, 3), 0);
        DUE.is("13: NOBODY", x.count(11), 2);
        DUE.is("13: BELOW", x.count(14), 1);
        DUE.is("13: ROOM", x.count(16), 1);
    }

    private static void judge() {
        WhichWord x = saidInThree();
        DUE.is("14: all have it", x.judge(0, 0), -9);
        DUE.is("14: the second has not", x.judge(0, 84), 1);
        DUE.is("14: the first has not", x.judge(0, 78), 0);
        DUE.is("14: the third has not", x.judge(1, 0), 2);
        DUE.is("14: the first of several", x.judge(2, 5), 0);
        DUE.is("14: never SAID", x.judge(3, 5), -9);
        x.say(0, 2, false);
        DUE.is("14: the first in which it was SAID", x.judge(2, 5), 1);
        DUE.is("14: none is no refusal", x.count(11), 0);
        DUE.is("14: WORD 6", x.judge(6, 0), -1);
        DUE.is("14: WORD -1", x.judge(-1, 0), -1);
        DUE.is("14: MEANING 90", x.judge(0, 90), -1);
        DUE.is("14: MEANING -1", x.judge(0, -1), -1);
        DUE.is("14: NOBODY", x.count(11), 4);
    }
}
