import java.util.ArrayList;
import java.util.List;
import java.util.Random;

/** Every promise: long runs of calls, drawn from fixed seeds, with the answers of Plain. */
public final class PlainTest {
    private static final int RUNS = 240;
    private static final int CALLS = 512;
    private static final int[] WILD = {Integer.MIN_VALUE, -100, -10, -9, -2, -1, 90, 91, 1000, Integer.MAX_VALUE};
    private static final Due DUE = new Due();

    private final Random random;
    private final WhichWord x = new WhichWord();
    private final Plain plain = new Plain();
    private final String name;
    /** Marks and doings that scenes are drawn from: few of them in some runs, so that scenes are alike. */
    private final int marks;
    private final int wildness;

    private PlainTest(int seed) {
        random = new Random(seed);
        name = "run " + seed + ": ";
        marks = 2 + random.nextInt(5);
        wildness = 5 + random.nextInt(60);
    }

    public static void main(String[] args) {
        for (int seed = 0; seed < RUNS; seed++) {
            new PlainTest(seed).run();
        }
        DUE.end();
    }

    private void run() {
        for (int i = 0; i < CALLS; i++) {
            int draw = random.nextInt(100);
            if (draw < 22) {
                i += tellSome();
            } else if (draw < 45) {
                change(random.nextInt(12));
            } else {
                ask(random.nextInt(22));
            }
        }
        for (int what = -1; what < 18; what++) {
            DUE.is(name + "count(" + what + ")", x.count(what), plain.count(what));
        }
    }

    /** One of 0 .. many - 1, or now and then a number that is wild. */
    private int one(int many) {
        if (random.nextInt(wildness) == 0) {
            return random.nextBoolean() ? many : WILD[random.nextInt(WILD.length)];
        }
        return random.nextInt(Math.max(1, many));
    }

    private int tellSome() {
        String text = sceneText();
        int fed = 0;
        for (int at = 0; at < text.length(); ) {
            int n = Math.min(text.length() - at, 1 + random.nextInt(8));
            feed(n, text.substring(at, at + n));
            at += n;
            fed++;
        }
        if (random.nextInt(9) != 0) {
            DUE.is(name + "scene() of " + plain.text, x.scene(), plain.scene());
        }
        return fed;
    }

    private void feed(int n, String part) {
        long bytes = random.nextLong();
        for (int i = 0; i < part.length(); i++) {
            bytes = bytes & ~(255L << 8 * i) | (long) part.charAt(i) << 8 * i;
        }
        long want;
        if (plain.text.length() + n > 40) {
            want = plain.no(-6);
        } else {
            plain.text += part;
            want = plain.text.length();
        }
        DUE.is(name + "feed(" + n + ", " + bytes + ")", x.feed(n, bytes), want);
    }

    private String sceneText() {
        StringBuilder text = new StringBuilder();
        int things = 1 + random.nextInt(random.nextInt(20) == 0 ? 5 : 4);
        for (int i = 0; i < things; i++) {
            text.append(i > 0 ? "," : "");
            int set = 1 + random.nextInt((1 << marks) - 1);
            for (int m = 0; m < marks; m++) {
                text.append((set >> m & 1) != 0 ? String.valueOf((char) ('a' + m)) : "");
            }
            text.append(random.nextInt(3) == 0 ? "*" : "");
        }
        int doings = things < 2 ? 0 : random.nextInt(random.nextInt(20) == 0 ? 5 : 4);
        for (int i = 0; i < doings; i++) {
            int who = random.nextInt(things);
            text.append(i > 0 ? ',' : ';').append(who).append((char) ('x' + random.nextInt(3)));
            text.append((who + 1 + random.nextInt(things - 1)) % things);
        }
        if (random.nextInt(4) == 0) {
            spoil(text);
        }
        return text.toString();
    }

    private void spoil(StringBuilder text) {
        String signs = "abcdefg*,;0123x4yzw{A \u0000\u00ff";
        char sign = signs.charAt(random.nextInt(signs.length()));
        int at = random.nextInt(text.length() + 1);
        int how = random.nextInt(3);
        if (how == 0 || at == text.length()) {
            text.insert(at, sign);
        } else if (how == 1) {
            text.setCharAt(at, sign);
        } else {
            text.setLength(at);
        }
    }

    private boolean noScene(int scene) {
        return scene < 0 || scene >= plain.scenes.size();
    }

    private static boolean noWord(int word) {
        return word < 0 || word > 5;
    }

    private static boolean noMeaning(int meaning) {
        return meaning < 0 || meaning > 89;
    }

    private void change(int which) {
        switch (which) {
            case 0 -> feedWrong();
            case 1 -> {
                if (random.nextInt(3) == 0) {
                    DUE.is(name + "takeBack()", x.takeBack(), plain.takeBack());
                }
            }
            case 2 -> weight();
            case 3 -> set();
            case 4, 5 -> give();
            case 6 -> saying();
            case 7 -> {
                if (random.nextInt(5) == 0) {
                    DUE.is(name + "image()", x.image(), plain.image());
                }
            }
            case 8 -> {
                if (random.nextInt(8) == 0) {
                    DUE.is(name + "restore()", x.restore(), plain.restore());
                }
            }
            default -> say();
        }
    }

    private void feedWrong() {
        int n = random.nextBoolean() ? -random.nextInt(3) : 9 + random.nextInt(30);
        DUE.is(name + "feed(" + n + ")", x.feed(n, 0), plain.no(n < 1 ? -4 : -6));
    }

    private void say() {
        int scene = one(plain.scenes.size());
        int word = one(6);
        boolean is = random.nextInt(4) != 0;
        int want;
        if (noScene(scene) || noWord(word)) {
            want = plain.no(-1);
        } else if (is) {
            want = plain.said.get(scene).add(word) ? 1 : 0;
        } else {
            want = plain.said.get(scene).remove(word) ? 1 : 0;
        }
        DUE.is(name + "say(" + scene + ", " + word + ", " + is + ")", x.say(scene, word, is), want);
    }

    private void weight() {
        int kind = one(8);
        int v = one(101);
        int want;
        if (kind < 0 || kind > 7) {
            want = plain.no(-1);
        } else if (v < 1 || v > 99) {
            want = plain.no(v < 1 ? -4 : -6);
        } else {
            want = plain.weights[kind];
            plain.weights[kind] = v;
        }
        DUE.is(name + "weight(" + kind + ", " + v + ")", x.weight(kind, v), want);
    }

    private void set() {
        int what = one(2);
        int v = random.nextInt(4) == 0 ? 0 : one(102);
        int want;
        if (what != 0 && what != 1) {
            want = plain.no(-2);
        } else if (v < 1 - what || v > 100) {
            want = plain.no(v < 1 ? -4 : -6);
        } else if (what == 0) {
            want = plain.hit;
            plain.hit = v;
        } else {
            want = plain.miss;
            plain.miss = v;
        }
        DUE.is(name + "set(" + what + ", " + v + ")", x.set(what, v), want);
    }

    private void give() {
        int word = one(6);
        int meaning = random.nextInt(3) == 0 ? 39 + random.nextInt(3) : random.nextInt(3) == 0 ? one(91) - 1 : one(marks);
        int want;
        if (noWord(word) || meaning != -1 && noMeaning(meaning)) {
            want = plain.no(-1);
        } else {
            want = plain.given[word];
            plain.given[word] = meaning == -1 ? -9 : meaning;
        }
        DUE.is(name + "give(" + word + ", " + meaning + ")", x.give(word, meaning), want);
    }

    private void saying() {
        int scene = one(plain.scenes.size());
        int a = random.nextInt(6);
        int b = (a + 1 + random.nextInt(5)) % 6;
        int c = random.nextInt(6);
        int words = random.nextInt(20) == 0 ? one(2000) : 100 * a + 10 * b + c;
        String digits = words < 0 ? "999" : String.format("%03d", words);
        boolean isFine = digits.matches("[0-5]{3}") && digits.chars().distinct().count() == 3;
        int want;
        if (noScene(scene) || !isFine) {
            want = plain.no(-1);
        } else if (plain.sayings.size() == 20) {
            want = plain.no(-6);
        } else {
            plain.sayings.add(new Plain.Saying(scene, digits.charAt(0) - '0', digits.charAt(1) - '0', digits.charAt(2) - '0'));
            want = plain.sayings.size();
        }
        DUE.is(name + "saying(" + scene + ", " + words + ")", x.saying(scene, words), want);
    }

    private void ask(int which) {
        int word = one(6);
        int scene = one(plain.scenes.size());
        int meaning = one(90);
        switch (which) {
            case 0 -> askScene(scene, meaning);
            case 1 -> DUE.is(name + "said(" + word + ")", x.said(word), noWord(word) ? plain.no(-1) : plain.saidIn(word).size());
            case 2 -> DUE.is(name + "kind(" + meaning + ")", x.kind(meaning), noMeaning(meaning) ? plain.no(-1) : Plain.kind(meaning));
            case 3, 4 -> left(word);
            case 5 -> plainest(word);
            case 6 -> DUE.is(name + "judge(" + word + ", " + meaning + ")", x.judge(word, meaning),
                    noWord(word) || noMeaning(meaning) ? plain.no(-1) : plain.judge(word, meaning));
            case 7 -> DUE.is(name + "likelihood(" + word + ", " + meaning + ")", x.likelihood(word, meaning),
                    noWord(word) || noMeaning(meaning) ? far(plain.no(-1)) : plain.likelihood(word, meaning));
            case 8, 9 -> chance(word, meaning);
            case 10 -> DUE.is(name + "likeliest(" + word + ")", x.likeliest(word), noWord(word) ? plain.no(-1) : plain.likeliest(word));
            case 11, 12 -> givings();
            case 13 -> two(word);
            case 14 -> DUE.is(name + "orders()", x.orders(), plain.orders());
            case 15 -> DUE.is(name + "next(" + word + ")", x.next(word), noWord(word) ? plain.no(-1) : plain.next(word));
            case 16 -> DUE.is(name + "enough(" + word + ")", x.enough(word), noWord(word) ? plain.no(-1) : plain.enough(word));
            case 17, 18 -> help(word);
            case 19 -> DUE.is(name + "never()", x.never(), plain.never());
            case 20 -> sameAndPart(meaning, one(90));
            default -> {
                int what = one(17);
                DUE.is(name + "count(" + what + ")", x.count(what), plain.count(what));
            }
        }
    }

    private static long far(int number) {
        return number - 4000000000000000000L;
    }

    private void askScene(int scene, int meaning) {
        int i = one(4);
        DUE.is(name + "thing(" + scene + ", " + i + ")", x.thing(scene, i), noScene(scene) ? plain.no(-1) : plain.thing(scene, i));
        DUE.is(name + "doing(" + scene + ", " + i + ")", x.doing(scene, i), noScene(scene) ? plain.no(-1) : plain.doing(scene, i));
        DUE.is(name + "has(" + scene + ", " + meaning + ")", x.has(scene, meaning),
                noScene(scene) || noMeaning(meaning) ? plain.no(-1) : plain.has(scene, meaning) ? 1 : 0);
    }

    private void left(int word) {
        int slips = one(4);
        int i = one(random.nextBoolean() ? 6 : 91) - (random.nextBoolean() ? 1 : 0);
        int want;
        if (noWord(word)) {
            want = plain.no(-1);
        } else if (slips < 0 || i < -1) {
            want = plain.no(-4);
        } else if (slips > 3) {
            want = plain.no(-6);
        } else {
            List<Integer> left = plain.left(word, slips);
            want = i == -1 ? left.size() : i < left.size() ? left.get(i) : -9;
        }
        DUE.is(name + "left(" + word + ", " + slips + ", " + i + ")", x.left(word, slips, i), want);
    }

    private void plainest(int word) {
        int slips = one(4);
        int want;
        if (noWord(word)) {
            want = plain.no(-1);
        } else if (slips < 0 || slips > 3) {
            want = plain.no(slips < 0 ? -4 : -6);
        } else {
            want = plain.plainest(word, slips);
        }
        DUE.is(name + "plainest(" + word + ", " + slips + ")", x.plainest(word, slips), want);
    }

    private void chance(int word, int meaning) {
        int part = one(2);
        long want;
        if (part != 0 && part != 1) {
            want = far(plain.no(-2));
        } else if (noWord(word) || noMeaning(meaning)) {
            want = far(plain.no(-1));
        } else {
            want = plain.chance(word, meaning, part);
        }
        DUE.is(name + "chance(" + word + ", " + meaning + ", " + part + ")", x.chance(word, meaning, part), want);
    }

    private void givings() {
        int words = random.nextInt(4) == 0 ? one(64) : 1 << random.nextInt(6) | 1 << random.nextInt(6) | 1 << random.nextInt(6);
        int word = one(6);
        List<Integer> list = new ArrayList<>();
        for (int w = 0; w < 6; w++) {
            if ((words >> w & 1) != 0) {
                list.add(w);
            }
        }
        boolean isFine = words > 0 && words < 64 && list.size() <= 3;
        int[] first = {-9, -9, -9};
        int want = isFine ? plain.givings(list, first) : plain.no(-1);
        DUE.is(name + "givings(" + words + ")", x.givings(words), want);
        int wantOne = isFine && list.contains(word) ? first[list.indexOf(word)] : plain.no(-1);
        DUE.is(name + "giving(" + words + ", " + word + ")", x.giving(words, word), wantOne);
    }

    private void two(int word) {
        int what = one(2);
        int want;
        if (noWord(word)) {
            want = plain.no(-1);
        } else if (what != 0 && what != 1) {
            want = plain.no(-2);
        } else {
            List<Integer> twos = plain.twos(word);
            want = what == 0 ? twos.size() : twos.isEmpty() ? -9 : twos.get(0);
        }
        DUE.is(name + "two(" + word + ", " + what + ")", x.two(word, what), want);
    }

    private void help(int word) {
        List<Integer> left = noWord(word) ? List.of() : plain.left(word, 0);
        int meaning = left.isEmpty() || random.nextInt(4) == 0 ? one(90) : left.get(random.nextInt(left.size()));
        int n = one(4);
        int want;
        if (noWord(word) || noMeaning(meaning)) {
            want = plain.no(-1);
        } else if (n < 1 || n > 3) {
            want = plain.no(n < 1 ? -4 : -6);
        } else if (!left.contains(meaning)) {
            want = plain.no(-3);
        } else {
            want = plain.help(word, meaning, n);
        }
        DUE.is(name + "help(" + word + ", " + meaning + ", " + n + ")", x.help(word, meaning, n), want);
    }

    private void sameAndPart(int a, int b) {
        boolean isFine = !noMeaning(a) && !noMeaning(b);
        DUE.is(name + "same(" + a + ", " + b + ")", x.same(a, b), isFine ? plain.part(a, b) < 0 ? 1 : 0 : plain.no(-1));
        DUE.is(name + "part(" + a + ", " + b + ")", x.part(a, b), isFine ? plain.part(a, b) : plain.no(-1));
    }
}
