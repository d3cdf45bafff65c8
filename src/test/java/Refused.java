import java.util.function.Supplier;
import java.util.function.ToLongFunction;

/** A call that is refused: it answers its number, is counted once by that number, and changes nothing else. */
final class Refused {
    private static final long LONGS = 4000000000000000000L;

    private Refused() {
    }

    static void is(Due due, long answer, ToLongFunction<WhichWord> call) {
        is(due, Refused::some, answer, call);
    }

    static void is(Due due, Supplier<WhichWord> made, long answer, ToLongFunction<WhichWord> call) {
        long number = answer <= -LONGS ? answer + LONGS : answer;
        WhichWord x = made.get();
        int[] before = refusals(x);
        due.is("the call", call.applyAsLong(x), answer);
        int[] after = refusals(x);
        for (int n = 1; n <= 6; n++) {
            due.is("how many were refused by -" + n, after[n] - before[n], n == -number ? 1 : 0);
        }
        due.isText("what there is then", Look.whole(x), Look.whole(made.get()));
    }

    private static int[] refusals(WhichWord x) {
        int[] refusals = new int[7];
        for (int n = 1; n <= 6; n++) {
            refusals[n] = x.count(10 + n);
        }
        return refusals;
    }

    /** Three SCENES and something of all that there can be; the IMAGE is of other things. */
    static WhichWord some() {
        WhichWord x = Due.of("a,b;0x1", "ab*,c;1y0", "a*,f");
        Due.sayIn(x, 0, 0, 1);
        Due.sayIn(x, 1, 0, 2);
        Due.sayIn(x, 5, 2);
        x.weight(3, 44);
        x.set(0, 77);
        x.set(1, 22);
        x.give(0, 0);
        x.give(1, 39);
        x.give(2, 1);
        x.saying(0, 12);
        x.image();
        x.takeBack();
        Due.tell(x, "cd*,e");
        Due.sayIn(x, 3, 2);
        x.weight(0, 9);
        x.set(0, 66);
        x.set(1, 11);
        x.give(3, 40);
        x.saying(2, 12);
        Due.feedText(x, "ab*,");
        x.feed(1, 'd');
        return x;
    }

    /** As many SCENES, SAYINGS and bytes as there can be; the IMAGE has one SCENE. */
    static WhichWord full() {
        WhichWord x = Due.of("a,b;0x1");
        x.image();
        for (int i = 1; i < 24; i++) {
            Due.tell(x, i % 2 == 0 ? "a" : "b*");
        }
        Due.sayIn(x, 0, 2, 4, 23);
        x.give(0, 0);
        x.give(1, 39);
        x.give(2, 1);
        for (int i = 0; i < 20; i++) {
            x.saying(0, 12);
        }
        Due.feedText(x, "abcdef,abcdef,abcdef,abcdef*;0x1,1y2,2z3");
        return x;
    }
}
