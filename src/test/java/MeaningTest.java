/** Promises 7 to 11: say, said, kind, weight, has. */
public final class MeaningTest {
    private static final Due DUE = new Due();

    public static void main(String[] args) {
        sayAndSaid();
        kind();
        weight();
        has();
        hasRefused();
        DUE.end();
    }

    private static void sayAndSaid() {
        WhichWord x = Due.of("a", "b");
        DUE.is("7: it was not SAID", x.say(0, 0, false), 0);
        DUE.is("7: it was SAID", x.say(0, 0, true), 1);
        DUE.is("7: it was so", x.say(0, 0, true), 0);
        DUE.is("7: another WORD in it", x.say(0, 5, true), 1);
        DUE.is("7: in another SCENE", x.say(1, 0, true), 1);
        DUE.is("8: in two", x.said(0), 2);
        DUE.is("8: in one", x.said(5), 1);
        DUE.is("8: in none", x.said(1), 0);
        DUE.is("7: it was not", x.say(0, 0, false), 1);
        DUE.is("8: in one still", x.said(0), 1);
        DUE.is("8: the other stays", x.said(5), 1);
        DUE.is("7: SCENE 2", x.say(2, 0, true), -1);
        DUE.is("7: SCENE -1", x.say(-1, 0, false), -1);
        DUE.is("7: WORD 6", x.say(0, 6, true), -1);
        DUE.is("7: WORD -1", x.say(0, -1, true), -1);
        DUE.is("7: NOBODY", x.count(11), 4);
        DUE.is("8: WORD 6", x.said(6), -1);
        DUE.is("8: WORD -1", x.said(-1), -1);
        DUE.is("8: WORD greatest int", x.said(Integer.MAX_VALUE), -1);
        DUE.is("8: NOBODY", x.count(11), 7);
        DUE.is("7: refused, nothing was SAID", x.count(3), 2);
    }

    private static void kind() {
        WhichWord x = new WhichWord();
        int[] ends = {5, 20, 38, 41, 59, 77, 83, 89};
        int due = 0;
        for (int meaning = 0; meaning < 90; meaning++) {
            if (meaning > ends[due]) {
                due++;
            }
            DUE.is("9: kind(" + meaning + ")", x.kind(meaning), due);
        }
        DUE.is("9: kind(90)", x.kind(90), -1);
        DUE.is("9: kind(-1)", x.kind(-1), -1);
        DUE.is("9: kind(least int)", x.kind(Integer.MIN_VALUE), -1);
        DUE.is("9: NOBODY", x.count(11), 3);
    }

    private static void weight() {
        WhichWord x = new WhichWord();
        for (int kind = 0; kind < 8; kind++) {
            DUE.is("10: what it was at first", x.weight(kind, 20 + kind), 10);
        }
        for (int kind = 0; kind < 8; kind++) {
            DUE.is("10: what it was", x.weight(kind, 1), 20 + kind);
        }
        DUE.is("10: the greatest", x.weight(3, 99), 1);
        DUE.is("10: above it", x.weight(3, 100), -6);
        DUE.is("10: below the least", x.weight(3, 0), -4);
        DUE.is("10: far below", x.weight(3, Integer.MIN_VALUE), -4);
        DUE.is("10: KIND 8", x.weight(8, 50), -1);
        DUE.is("10: KIND -1 comes ahead of BELOW", x.weight(-1, 0), -1);
        DUE.is("10: KIND 8 comes ahead of ROOM", x.weight(8, 100), -1);
        DUE.is("10: refused, it is as it was", x.weight(3, 98), 99);
        DUE.is("10: NOBODY", x.count(11), 3);
        DUE.is("10: BELOW", x.count(14), 2);
        DUE.is("10: ROOM", x.count(16), 1);
    }

    /** All that a SCENE HAS, and with it all that it HAS not. */
    private static void hasJust(String text, int... meanings) {
        WhichWord x = Due.of(text);
        int next = 0;
        for (int meaning = 0; meaning < 90; meaning++) {
            boolean isDue = next < meanings.length && meanings[next] == meaning;
            DUE.is("11: '" + text + "' has(" + meaning + ")", x.has(0, meaning), isDue ? 1 : 0);
            if (isDue) {
                next++;
            }
        }
    }

    private static void has() {
        hasJust("a", 0, 84);
        hasJust("f*", 5, 83);
        hasJust("a*,a", 0, 21, 78, 84);
        hasJust("ab", 0, 1, 6, 84, 85);
        hasJust("a,b", 0, 1, 84, 85);
        hasJust("bf*", 1, 5, 14, 79, 83);
        hasJust("c,c,cd", 2, 3, 15, 28, 86, 87);
        hasJust("f,f*,f,f", 5, 38, 83, 89);
        hasJust("abcdef", 0, 1, 2, 3, 4, 5, 6, 7, 8, 9, 10, 11, 12, 13, 14, 15, 16, 17, 18, 19, 20,
                84, 85, 86, 87, 88, 89);
        hasJust("a,b;0x1", 0, 1, 39, 42, 61, 84, 85);
        hasJust("a,b;1x0", 0, 1, 39, 43, 60, 84, 85);
        hasJust("c,d*,e;0z2", 2, 3, 4, 41, 56, 76, 81, 86, 88);
        hasJust("c,d;0x1,1y0", 2, 3, 39, 40, 44, 51, 63, 68, 86, 87);
        hasJust("ef*,f;1y0,1y0", 4, 5, 20, 36, 40, 53, 70, 71, 82, 83, 89);
        int joined = 6;
        for (int m = 0; m < 6; m++) {
            for (int n = m + 1; n < 6; n++) {
                String text = String.valueOf(new char[] {(char) ('a' + m), (char) ('a' + n)});
                hasJust(text, m, n, joined, 84 + m, 84 + n);
                joined++;
            }
        }
        for (int m = 0; m < 6; m++) {
            String one = String.valueOf((char) ('a' + m));
            hasJust(one + "," + one, m, 21 + 3 * m, 84 + m);
            hasJust(one + "," + one + "," + one, m, 22 + 3 * m, 84 + m);
            hasJust(one + "," + one + "," + one + "," + one, m, 23 + 3 * m, 84 + m);
            for (int v = 0; v < 3; v++) {
                String by = String.valueOf((char) ('x' + v));
                int count = 21 + 3 * m;
                hasJust(one + "," + one + ";1" + by + "0", m, count, 39 + v, 42 + 6 * v + m, 60 + 6 * v + m, 84 + m);
            }
        }
    }

    private static void hasRefused() {
        WhichWord x = Due.of("b", "a");
        DUE.is("11: each SCENE HAS its own", x.has(0, 1), 1);
        DUE.is("11: and not the other's", x.has(1, 1), 0);
        DUE.is("11: SCENE 2", x.has(2, 0), -1);
        DUE.is("11: SCENE -1", x.has(-1, 0), -1);
        DUE.is("11: MEANING 90", x.has(0, 90), -1);
        DUE.is("11: MEANING -1", x.has(0, -1), -1);
        DUE.is("11: NOBODY", x.count(11), 4);
    }
}
