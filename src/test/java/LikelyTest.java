/** Promises 15 to 18: set, likelihood, chance, likeliest. */
public final class LikelyTest {
    private static final long LONG_NOBODY = -4000000000000000001L;
    private static final long LONG_OTHER = -4000000000000000002L;
    private static final Due DUE = new Due();

    public static void main(String[] args) {
        set();
        likelihood();
        chance();
        chanceOfNothing();
        likeliest();
        DUE.end();
    }

    private static void set() {
        WhichWord x = new WhichWord();
        DUE.is("15: HIT was", x.set(0, 1), 90);
        DUE.is("15: MISS was", x.set(1, 0), 10);
        DUE.is("15: HIT was the least", x.set(0, 100), 1);
        DUE.is("15: MISS was the least", x.set(1, 100), 0);
        DUE.is("15: HIT 0", x.set(0, 0), -4);
        DUE.is("15: MISS -1", x.set(1, -1), -4);
        DUE.is("15: HIT 101", x.set(0, 101), -6);
        DUE.is("15: MISS 101", x.set(1, 101), -6);
        DUE.is("15: what 2 ahead of BELOW", x.set(2, -1), -2);
        DUE.is("15: what -1 ahead of ROOM", x.set(-1, 101), -2);
        DUE.is("15: refused, HIT is as it was", x.set(0, 50), 100);
        DUE.is("15: refused, MISS is as it was", x.set(1, 50), 100);
        DUE.is("15: OTHER", x.count(12), 2);
        DUE.is("15: BELOW", x.count(14), 2);
        DUE.is("15: ROOM", x.count(16), 2);
    }

    private static void likelihood() {
        WhichWord x = Due.of("b", "a", "a", "a", "a*", "a", "a", "a");
        DUE.is("16: never SAID: the WEIGHT", x.likelihood(0, 0), 10);
        Due.sayIn(x, 0, 0, 1, 4);
        DUE.is("16: two hits, one miss", x.likelihood(0, 0), 810000);
        DUE.is("16: one hit, two misses", x.likelihood(0, 84), 90000);
        x.weight(7, 3);
        x.set(1, 20);
        DUE.is("16: WEIGHT and MISS", x.likelihood(0, 84), 108000);
        x.set(0, 7);
        DUE.is("16: HIT", x.likelihood(0, 84), 8400);
        Due.sayIn(x, 0, 2, 3, 5);
        x.set(0, 90);
        x.set(1, 10);
        DUE.is("16: six SCENES", x.likelihood(0, 0), 590490000000L);
        Due.sayIn(x, 0, 6);
        DUE.is("16: the latest six of seven", x.likelihood(0, 0), 5314410000000L);
        DUE.is("16: the first is not of them", x.likelihood(0, 1), 10000000L);
        x.say(7, 0, true);
        x.say(4, 0, false);
        DUE.is("16: the latest six again", x.likelihood(0, 84), 1594323000000L);
        x.set(1, 0);
        DUE.is("16: MISS 0", x.likelihood(0, 1), 0);
        x.weight(0, 99);
        x.set(0, 100);
        DUE.is("16: the greatest there can be", x.likelihood(0, 0), 99000000000000L);
        DUE.is("16: WORD 6", x.likelihood(6, 0), LONG_NOBODY);
        DUE.is("16: WORD -1", x.likelihood(-1, 0), LONG_NOBODY);
        DUE.is("16: MEANING 90", x.likelihood(0, 90), LONG_NOBODY);
        DUE.is("16: MEANING -1", x.likelihood(0, -1), LONG_NOBODY);
        DUE.is("16: NOBODY", x.count(11), 4);
    }

    private static void chance() {
        WhichWord x = Due.of("a");
        DUE.is("17: all are as likely", x.chance(0, 0, 0), 1);
        DUE.is("17: by ninety", x.chance(0, 0, 1), 90);
        x.weight(7, 1);
        DUE.is("17: 10 of 846", x.chance(0, 0, 0), 5);
        DUE.is("17: in least terms", x.chance(0, 0, 1), 423);
        DUE.is("17: 1 of 846", x.chance(0, 84, 0), 1);
        DUE.is("17: by 846", x.chance(0, 84, 1), 846);
        x.weight(7, 10);
        Due.sayIn(x, 0, 0);
        DUE.is("17: 900 of 2 900 and 88 100", x.chance(0, 84, 0), 9);
        DUE.is("17: 10600", x.chance(0, 84, 1), 106);
        DUE.is("17: 100 of them", x.chance(0, 1, 0), 1);
        DUE.is("17: by 106", x.chance(0, 1, 1), 106);
        DUE.is("17: part 2", x.chance(0, 0, 2), LONG_OTHER);
        DUE.is("17: part -1", x.chance(0, 0, -1), LONG_OTHER);
        DUE.is("17: part 2 ahead of WORD 6", x.chance(6, 90, 2), LONG_OTHER);
        DUE.is("17: WORD 6", x.chance(6, 0, 0), LONG_NOBODY);
        DUE.is("17: WORD -1", x.chance(-1, 0, 1), LONG_NOBODY);
        DUE.is("17: MEANING 90", x.chance(0, 90, 1), LONG_NOBODY);
        DUE.is("17: MEANING -1", x.chance(0, -1, 0), LONG_NOBODY);
        DUE.is("17: OTHER", x.count(12), 3);
        DUE.is("17: NOBODY", x.count(11), 4);
    }

    private static void chanceOfNothing() {
        WhichWord x = Due.of("a", "b");
        x.set(1, 0);
        Due.sayIn(x, 0, 0);
        DUE.is("17: 0", x.chance(0, 5, 0), 0);
        DUE.is("17: by 1", x.chance(0, 5, 1), 1);
        DUE.is("17: one of two", x.chance(0, 0, 0), 1);
        DUE.is("17: by two", x.chance(0, 0, 1), 2);
        Due.sayIn(x, 0, 1);
        DUE.is("17: all are 0", x.chance(0, 0, 0), 0);
        DUE.is("17: by 1 too", x.chance(0, 0, 1), 1);
        DUE.is("18: all are 0, the least", x.likeliest(0), 0);
    }

    private static void likeliest() {
        WhichWord x = Due.of("b", "b*", "f");
        DUE.is("18: never SAID, the least", x.likeliest(0), 0);
        x.weight(5, 11);
        DUE.is("18: the greatest WEIGHT", x.likeliest(0), 60);
        Due.sayIn(x, 0, 0, 1);
        DUE.is("18: what both have", x.likeliest(0), 1);
        x.say(1, 0, false);
        DUE.is("18: the least of two", x.likeliest(0), 1);
        x.weight(7, 12);
        DUE.is("18: AWAY weighs more", x.likeliest(0), 85);
        x.set(0, 10);
        x.set(1, 90);
        DUE.is("18: what it HAS not is likelier", x.likeliest(0), 84);
        DUE.is("18: WORD 6", x.likeliest(6), -1);
        DUE.is("18: WORD -1", x.likeliest(-1), -1);
        DUE.is("18: NOBODY", x.count(11), 2);
    }
}
