import java.util.Arrays;

/**
 * Which of these did he mean: scenes, words that were said in them, and the
 * meanings those words may have. The face below tests what a call brings and
 * refuses it; the classes inside answer what was not refused.
 *
 * Sets of SCENES are held as bits of an int (24 at most), so that most
 * questions about MEANINGS are questions about two such sets.
 */
public final class WhichWord {
    private static final int MOST_SCENES = 24;
    private static final int MOST_THINGS = 4;
    private static final int MOST_DOINGS = 3;
    private static final int MOST_BYTES = 40;
    private static final int MOST_FED = 8;
    private static final int MOST_SAYINGS = 20;
    private static final int MOST_SLIPS = 3;
    private static final int MOST_GIVEN_TOGETHER = 3;
    private static final int MOST_CHOSEN = 3;
    private static final int MOST_CHOSEN_FROM = 12;
    private static final int MOST_SETS = 220;
    private static final int LATEST = 6;
    private static final int LEAST_WEIGHT = 1;
    private static final int MOST_WEIGHT = 99;
    private static final int MOST_HUNDREDTHS = 100;

    private static final int MARKS = 6;
    private static final int DOINGS = 3;
    private static final int WORDS = 6;
    private static final int KINDS = 8;
    private static final int MEANINGS = 90;
    private static final int ORDERS = 6;
    private static final int HERE = 64;

    private static final int FIRST_DOING = 39;
    private static final int[] FIRST_OF_KIND = {0, 6, 21, 39, 42, 60, 78, 84};
    private static final int[] JOINED_MARKS = {3, 5, 9, 17, 33, 6, 10, 18, 34, 12, 20, 36, 24, 40, 48};
    /** By ORDERS: the place of who, of the doing, of whom in a SAYING. */
    private static final int[] PLACE_OF_WHO = {0, 0, 1, 2, 1, 2};
    private static final int[] PLACE_OF_DOING = {1, 2, 0, 0, 2, 1};
    private static final int[] PLACE_OF_WHOM = {2, 1, 2, 1, 0, 0};

    private static final int NOBODY = -1;
    private static final int OTHER = -2;
    private static final int STATE = -3;
    private static final int BELOW = -4;
    private static final int ROOM = -6;
    private static final int REFUSAL_NUMBERS = 6;
    /** The last number ahead of those by which count is asked for REFUSALS. */
    private static final int AHEAD_OF_REFUSALS = 10;
    private static final int NONE = -9;
    private static final int FAULT = -20;
    private static final long LONG_REFUSALS = -4000000000000000000L;

    private final Text text = new Text();
    private final Told told;
    private final Told kept = new Told();
    private boolean isKept = false;
    private final int[] refusals = new int[REFUSAL_NUMBERS + 1];
    private final Likely likely;
    private final Giver giver;
    private final Chooser chooser;

    public WhichWord() {
        Told nothing = new Told();
        told = nothing;
        likely = new Likely(nothing);
        giver = new Giver(nothing);
        chooser = new Chooser(nothing);
    }

    public int feed(int n, long bytes) {
        if (n < 1) {
            return refuse(BELOW);
        }
        if (n > MOST_FED || n > text.room()) {
            return refuse(ROOM);
        }
        return text.append(n, bytes);
    }

    public int scene() {
        if (told.sceneCount >= MOST_SCENES) {
            return refuse(ROOM);
        }
        Scene read = new Scene();
        boolean isFine = text.readScene(read);
        int fault = FAULT - text.place();
        text.empty();
        return isFine ? told.addScene(read) : fault;
    }

    public int takeBack() {
        if (told.sceneCount == 0) {
            return refuse(STATE);
        }
        return told.dropLatest();
    }

    public int thing(int scene, int i) {
        if (noScene(scene)) {
            return refuse(NOBODY);
        }
        return told.scenes[scene].thingAt(i);
    }

    public int doing(int scene, int i) {
        if (noScene(scene)) {
            return refuse(NOBODY);
        }
        return told.scenes[scene].doingAt(i);
    }

    public int say(int scene, int word, boolean is) {
        if (noScene(scene) || noWord(word)) {
            return refuse(NOBODY);
        }
        return told.tellSaid(scene, word, is) ? 1 : 0;
    }

    public int said(int word) {
        if (noWord(word)) {
            return refuse(NOBODY);
        }
        return Integer.bitCount(told.saidIn[word]);
    }

    public int kind(int meaning) {
        if (noMeaning(meaning)) {
            return refuse(NOBODY);
        }
        return kindOf(meaning);
    }

    public int weight(int kind, int v) {
        if (kind < 0 || kind >= KINDS) {
            return refuse(NOBODY);
        }
        if (v < LEAST_WEIGHT) {
            return refuse(BELOW);
        }
        if (v > MOST_WEIGHT) {
            return refuse(ROOM);
        }
        int was = told.weights[kind];
        told.weights[kind] = v;
        return was;
    }

    public int has(int scene, int meaning) {
        if (noScene(scene) || noMeaning(meaning)) {
            return refuse(NOBODY);
        }
        return isIn(told.having[meaning], scene) ? 1 : 0;
    }

    public int left(int word, int slips, int i) {
        if (noWord(word)) {
            return refuse(NOBODY);
        }
        if (slips < 0 || i < -1) {
            return refuse(BELOW);
        }
        if (slips > MOST_SLIPS) {
            return refuse(ROOM);
        }
        return i < 0 ? told.countLeft(word, slips) : told.leftAt(word, slips, i);
    }

    public int plainest(int word, int slips) {
        if (noWord(word)) {
            return refuse(NOBODY);
        }
        if (slips < 0) {
            return refuse(BELOW);
        }
        if (slips > MOST_SLIPS) {
            return refuse(ROOM);
        }
        return told.heaviestLeft(word, slips);
    }

    public int judge(int word, int meaning) {
        if (noWord(word) || noMeaning(meaning)) {
            return refuse(NOBODY);
        }
        return firstIn(told.saidIn[word] & ~told.having[meaning]);
    }

    public int set(int what, int v) {
        if (what != 0 && what != 1) {
            return refuse(OTHER);
        }
        if (v < (what == 0 ? 1 : 0)) {
            return refuse(BELOW);
        }
        if (v > MOST_HUNDREDTHS) {
            return refuse(ROOM);
        }
        int was = what == 0 ? told.hit : told.miss;
        if (what == 0) {
            told.hit = v;
        } else {
            told.miss = v;
        }
        return was;
    }

    public long likelihood(int word, int meaning) {
        if (noWord(word) || noMeaning(meaning)) {
            return LONG_REFUSALS + refuse(NOBODY);
        }
        return likely.of(word, meaning);
    }

    public long chance(int word, int meaning, int part) {
        if (part != 0 && part != 1) {
            return LONG_REFUSALS + refuse(OTHER);
        }
        if (noWord(word) || noMeaning(meaning)) {
            return LONG_REFUSALS + refuse(NOBODY);
        }
        return part == 0 ? likely.aboveLine(word, meaning) : likely.belowLine(word, meaning);
    }

    public int likeliest(int word) {
        if (noWord(word)) {
            return refuse(NOBODY);
        }
        return likely.greatest(word);
    }

    public int givings(int words) {
        if (noSetToGive(words)) {
            return refuse(NOBODY);
        }
        return giver.countWays(words);
    }

    public int giving(int words, int word) {
        if (noSetToGive(words) || noWord(word) || !isIn(words, word)) {
            return refuse(NOBODY);
        }
        return giver.firstFor(words, word);
    }

    public int two(int word, int what) {
        if (noWord(word)) {
            return refuse(NOBODY);
        }
        if (what != 0 && what != 1) {
            return refuse(OTHER);
        }
        return what == 0 ? told.countTwos(word) : told.firstTwo(word);
    }

    public int give(int word, int meaning) {
        if (noWord(word) || meaning != -1 && noMeaning(meaning)) {
            return refuse(NOBODY);
        }
        int was = told.given[word];
        told.given[word] = meaning == -1 ? NONE : meaning;
        return was;
    }

    public int saying(int scene, int words) {
        if (noScene(scene) || noThreeWords(words)) {
            return refuse(NOBODY);
        }
        if (told.sayingCount >= MOST_SAYINGS) {
            return refuse(ROOM);
        }
        return told.addSaying(scene, words);
    }

    public int orders() {
        return told.fittingOrders();
    }

    public int next(int word) {
        if (noWord(word)) {
            return refuse(NOBODY);
        }
        return chooser.evenest(word);
    }

    public int enough(int word) {
        if (noWord(word)) {
            return refuse(NOBODY);
        }
        return chooser.fewestParting(word);
    }

    public int help(int word, int meaning, int n) {
        if (noWord(word) || noMeaning(meaning)) {
            return refuse(NOBODY);
        }
        if (n < 1) {
            return refuse(BELOW);
        }
        if (n > MOST_CHOSEN) {
            return refuse(ROOM);
        }
        if (!told.isLeft(word, meaning, 0)) {
            return refuse(STATE);
        }
        return chooser.mostTelling(word, meaning, n);
    }

    public int never() {
        return told.countUnparted();
    }

    public int same(int a, int b) {
        if (noMeaning(a) || noMeaning(b)) {
            return refuse(NOBODY);
        }
        return told.having[a] == told.having[b] ? 1 : 0;
    }

    public int part(int a, int b) {
        if (noMeaning(a) || noMeaning(b)) {
            return refuse(NOBODY);
        }
        return firstIn(told.having[a] ^ told.having[b]);
    }

    public int image() {
        kept.copyFrom(told);
        isKept = true;
        return kept.sceneCount;
    }

    public int restore() {
        if (!isKept) {
            return refuse(STATE);
        }
        told.copyFrom(kept);
        return told.sceneCount;
    }

    public int count(int what) {
        switch (what) {
            case 0:
                return told.sceneCount;
            case 1:
                return told.countThings();
            case 2:
                return told.countDoings();
            case 3:
                return told.countSaid();
            case 4:
                return told.sayingCount;
            case 5:
                return text.length();
            default:
                return countRefusals(what);
        }
    }

    private int countRefusals(int what) {
        if (what <= AHEAD_OF_REFUSALS || what >= AHEAD_OF_REFUSALS + refusals.length) {
            return NONE;
        }
        return refusals[what - AHEAD_OF_REFUSALS];
    }

    private int refuse(int answer) {
        int number = -answer;
        if (number > 0 && number < refusals.length) {
            refusals[number]++;
        }
        return answer;
    }

    private boolean noScene(int scene) {
        return scene < 0 || scene >= told.sceneCount;
    }

    private static boolean noWord(int word) {
        return word < 0 || word >= WORDS;
    }

    private static boolean noMeaning(int meaning) {
        return meaning < 0 || meaning >= MEANINGS;
    }

    private static boolean noSetToGive(int words) {
        return words <= 0 || words >= 1 << WORDS || Integer.bitCount(words) > MOST_GIVEN_TOGETHER;
    }

    private static boolean noThreeWords(int words) {
        if (words < 0) {
            return true;
        }
        int a = wordAt(words, 0);
        int b = wordAt(words, 1);
        int c = wordAt(words, 2);
        return noWord(a) || noWord(b) || noWord(c) || a == b || a == c || b == c;
    }

    /** The first one is not cut to a digit, so that 1012 is no SAYING of 0 1 2. */
    private static int wordAt(int words, int place) {
        switch (place) {
            case 0:
                return words / 100;
            case 1:
                return words / 10 % 10;
            default:
                return words % 10;
        }
    }

    private static int kindOf(int meaning) {
        int kind = 0;
        for (int k = 1; k < FIRST_OF_KIND.length; k++) {
            if (meaning >= FIRST_OF_KIND[k]) {
                kind = k;
            }
        }
        return kind;
    }

    private static boolean isIn(int set, int number) {
        return (set >>> number & 1) != 0;
    }

    private static int firstIn(int set) {
        for (int n = 0; n < MOST_SCENES; n++) {
            if (isIn(set, n)) {
                return n;
            }
        }
        return NONE;
    }

    /** The bytes that were fed, and the reading of them: place is where it stands, or the FAULT. */
    private static final class Text {
        private final int[] bytes = new int[MOST_BYTES];
        private int size = 0;
        private int place = 0;

        int length() {
            return size;
        }

        int room() {
            return bytes.length - size;
        }

        int place() {
            return place;
        }

        void empty() {
            size = 0;
        }

        int append(int n, long fed) {
            for (int i = 0; i < n && size < bytes.length; i++) {
                bytes[size] = (int) (fed >>> 8 * i) & 255;
                size++;
            }
            return size;
        }

        boolean readScene(Scene to) {
            place = 0;
            return readThings(to) && (place == size || take(';') && readDoings(to) && place == size);
        }

        /** The comma behind the last THING that may be stays untaken: there is the FAULT of a fifth. */
        private boolean readThings(Scene to) {
            boolean isMore = true;
            for (int i = 0; i < MOST_THINGS && isMore; i++) {
                if (!readThing(to)) {
                    return false;
                }
                isMore = i + 1 < MOST_THINGS && take(',');
            }
            return true;
        }

        private boolean readThing(Scene to) {
            int marks = 0;
            for (int m = 0; m < MARKS; m++) {
                if (take('a' + m)) {
                    marks |= 1 << m;
                }
            }
            if (marks == 0) {
                return false;
            }
            to.addThing(take('*') ? marks | HERE : marks);
            return true;
        }

        private boolean readDoings(Scene to) {
            boolean isMore = true;
            for (int i = 0; i < MOST_DOINGS && isMore; i++) {
                if (!readDoing(to)) {
                    return false;
                }
                isMore = i + 1 < MOST_DOINGS && take(',');
            }
            return true;
        }

        private boolean readDoing(Scene to) {
            int who = takeOneOf('0', to.thingCount, -1);
            if (who < 0) {
                return false;
            }
            int what = takeOneOf('x', DOINGS, -1);
            if (what < 0) {
                return false;
            }
            int whom = takeOneOf('0', to.thingCount, who);
            if (whom < 0) {
                return false;
            }
            to.addDoing(100 * who + 10 * what + whom);
            return true;
        }

        private boolean take(int sign) {
            return takeOneOf(sign, 1, -1) == 0;
        }

        /** Which of so many signs from the first on stands here, if it is not the one left out; -1 none. */
        private int takeOneOf(int first, int many, int leftOut) {
            if (place >= size || place >= bytes.length) {
                return -1;
            }
            int n = bytes[place] - first;
            if (n < 0 || n >= many || n == leftOut) {
                return -1;
            }
            place++;
            return n;
        }
    }

    /** What is never changed once it was told, so that the IMAGE may share it. */
    private static final class Scene {
        private final int[] things = new int[MOST_THINGS];
        private final int[] doings = new int[MOST_DOINGS];
        int thingCount = 0;
        int doingCount = 0;

        void addThing(int thing) {
            if (thingCount < things.length) {
                things[thingCount] = thing;
                thingCount++;
            }
        }

        void addDoing(int doing) {
            if (doingCount < doings.length) {
                doings[doingCount] = doing;
                doingCount++;
            }
        }

        int thingAt(int i) {
            return i >= 0 && i < thingCount && i < things.length ? things[i] : NONE;
        }

        int doingAt(int i) {
            return i >= 0 && i < doingCount && i < doings.length ? doings[i] : NONE;
        }

        boolean holds(int meaning) {
            int kind = kindOf(meaning);
            int n = meaning - FIRST_OF_KIND[kind];
            switch (kind) {
                case 0:
                    return countThings(1 << n, 1 << n) > 0;
                case 1:
                    return holdsJoined(n);
                case 2:
                    return countThings(1 << n / 3, 1 << n / 3) == n % 3 + 2;
                case 3:
                    return isDone(n, 0, 0);
                case 4:
                    return isDone(n / MARKS, 1 << n % MARKS, 0);
                case 5:
                    return isDone(n / MARKS, 0, 1 << n % MARKS);
                case 6:
                    return countThings(1 << n | HERE, 1 << n | HERE) > 0;
                default:
                    return countThings(1 << n | HERE, 1 << n) > 0;
            }
        }

        private boolean holdsJoined(int n) {
            if (n < 0 || n >= JOINED_MARKS.length) {
                return false;
            }
            return countThings(JOINED_MARKS[n], JOINED_MARKS[n]) > 0;
        }

        /** How many THINGS have, of the bits looked at, just those wanted. */
        private int countThings(int lookedAt, int wanted) {
            int many = 0;
            for (int i = 0; i < thingCount; i++) {
                if ((thingAt(i) & lookedAt) == wanted) {
                    many++;
                }
            }
            return many;
        }

        /** Whether it is done by a THING that has all of some MARKS to one that has all of others. */
        boolean isDone(int what, int marksOfWho, int marksOfWhom) {
            for (int i = 0; i < doingCount; i++) {
                int d = doingAt(i);
                if (d / 10 % 10 == what
                        && (thingAt(d / 100) & marksOfWho) == marksOfWho
                        && (thingAt(d % 10) & marksOfWhom) == marksOfWhom) {
                    return true;
                }
            }
            return false;
        }
    }

    /** All that the IMAGE keeps. */
    private static final class Told {
        /** Stands where no SCENE is, so that no row holds null. */
        private final Scene emptyScene = new Scene();
        final Scene[] scenes = new Scene[MOST_SCENES];
        int sceneCount = 0;
        /** By MEANINGS: the SCENES that HAVE it. */
        final int[] having = new int[MEANINGS];
        /** By WORDS: the SCENES in which it was SAID. */
        final int[] saidIn = new int[WORDS];
        final int[] weights = new int[KINDS];
        int hit = 90;
        int miss = 10;
        final int[] given = new int[WORDS];
        private final int[] sayingScenes = new int[MOST_SAYINGS];
        private final int[] sayingWords = new int[MOST_SAYINGS];
        int sayingCount = 0;

        Told() {
            for (int i = 0; i < scenes.length; i++) {
                scenes[i] = emptyScene;
            }
            Arrays.fill(weights, 10);
            Arrays.fill(given, NONE);
        }

        void copyFrom(Told from) {
            for (int i = 0; i < scenes.length; i++) {
                scenes[i] = from.scenes[i];
            }
            sceneCount = from.sceneCount;
            System.arraycopy(from.having, 0, having, 0, MEANINGS);
            System.arraycopy(from.saidIn, 0, saidIn, 0, WORDS);
            System.arraycopy(from.weights, 0, weights, 0, KINDS);
            hit = from.hit;
            miss = from.miss;
            System.arraycopy(from.given, 0, given, 0, WORDS);
            System.arraycopy(from.sayingScenes, 0, sayingScenes, 0, MOST_SAYINGS);
            System.arraycopy(from.sayingWords, 0, sayingWords, 0, MOST_SAYINGS);
            sayingCount = from.sayingCount;
        }

        int addScene(Scene scene) {
            int number = sceneCount;
            if (number < scenes.length) {
                scenes[number] = scene;
                for (int m = 0; m < MEANINGS; m++) {
                    if (scene.holds(m)) {
                        having[m] |= 1 << number;
                    }
                }
                sceneCount++;
            }
            return number;
        }

        int dropLatest() {
            if (sceneCount > 0) {
                sceneCount--;
                int others = ~(1 << sceneCount);
                scenes[sceneCount] = emptyScene;
                for (int m = 0; m < MEANINGS; m++) {
                    having[m] &= others;
                }
                for (int w = 0; w < WORDS; w++) {
                    saidIn[w] &= others;
                }
                dropSayingsOf(sceneCount);
            }
            return sceneCount;
        }

        private void dropSayingsOf(int scene) {
            int stay = 0;
            for (int i = 0; i < sayingCount; i++) {
                if (sayingScenes[i] != scene) {
                    sayingScenes[stay] = sayingScenes[i];
                    sayingWords[stay] = sayingWords[i];
                    stay++;
                }
            }
            sayingCount = stay;
        }

        boolean tellSaid(int scene, int word, boolean is) {
            if (isIn(saidIn[word], scene) == is) {
                return false;
            }
            saidIn[word] ^= 1 << scene;
            return true;
        }

        int addSaying(int scene, int words) {
            if (sayingCount < MOST_SAYINGS) {
                sayingScenes[sayingCount] = scene;
                sayingWords[sayingCount] = words;
                sayingCount++;
            }
            return sayingCount;
        }

        int countThings() {
            int many = 0;
            for (int i = 0; i < sceneCount; i++) {
                many += scenes[i].thingCount;
            }
            return many;
        }

        int countDoings() {
            int many = 0;
            for (int i = 0; i < sceneCount; i++) {
                many += scenes[i].doingCount;
            }
            return many;
        }

        int countSaid() {
            int many = 0;
            for (int w = 0; w < WORDS; w++) {
                many += Integer.bitCount(saidIn[w]);
            }
            return many;
        }

        boolean isLeft(int word, int meaning, int slips) {
            return Integer.bitCount(saidIn[word] & ~having[meaning]) <= slips;
        }

        int countLeft(int word, int slips) {
            int many = 0;
            for (int m = 0; m < MEANINGS; m++) {
                if (isLeft(word, m, slips)) {
                    many++;
                }
            }
            return many;
        }

        int leftAt(int word, int slips, int i) {
            int ahead = 0;
            for (int m = 0; m < MEANINGS; m++) {
                if (isLeft(word, m, slips)) {
                    if (ahead == i) {
                        return m;
                    }
                    ahead++;
                }
            }
            return NONE;
        }

        int heaviestLeft(int word, int slips) {
            int best = NONE;
            int bestWeight = 0;
            for (int m = 0; m < MEANINGS; m++) {
                int weight = weights[kindOf(m)];
                if (weight > bestWeight && isLeft(word, m, slips)) {
                    best = m;
                    bestWeight = weight;
                }
            }
            return best;
        }

        private boolean isTwo(int word, int a, int b) {
            return (saidIn[word] & ~(having[a] | having[b])) == 0
                    && !isLeft(word, a, 0) && !isLeft(word, b, 0);
        }

        int countTwos(int word) {
            int many = 0;
            for (int a = 0; a < MEANINGS; a++) {
                for (int b = a + 1; b < MEANINGS; b++) {
                    if (isTwo(word, a, b)) {
                        many++;
                    }
                }
            }
            return many;
        }

        int firstTwo(int word) {
            for (int a = 0; a < MEANINGS; a++) {
                for (int b = a + 1; b < MEANINGS; b++) {
                    if (isTwo(word, a, b)) {
                        return 100 * a + b;
                    }
                }
            }
            return NONE;
        }

        int countUnparted() {
            int many = 0;
            for (int a = 0; a < MEANINGS; a++) {
                for (int b = a + 1; b < MEANINGS; b++) {
                    if (having[a] == having[b]) {
                        many++;
                    }
                }
            }
            return many;
        }

        int fittingOrders() {
            int fitting = 0;
            for (int order = 0; order < ORDERS; order++) {
                boolean isFitting = true;
                for (int i = 0; i < sayingCount && isFitting; i++) {
                    isFitting = fits(scenes[sayingScenes[i]], sayingWords[i], order);
                }
                if (isFitting) {
                    fitting |= 1 << order;
                }
            }
            return fitting;
        }

        private boolean fits(Scene scene, int words, int order) {
            int who = given[wordAt(words, PLACE_OF_WHO[order])];
            int what = given[wordAt(words, PLACE_OF_DOING[order])] - FIRST_DOING;
            int whom = given[wordAt(words, PLACE_OF_WHOM[order])];
            return isMark(who) && isMark(whom) && what >= 0 && what < DOINGS
                    && scene.isDone(what, 1 << who, 1 << whom);
        }

        private static boolean isMark(int meaning) {
            return meaning >= 0 && meaning < MARKS;
        }
    }

    /** LIKELIHOODS and CHANCES. */
    private static final class Likely {
        private final Told told;

        Likely(Told told) {
            this.told = told;
        }

        long of(int word, int meaning) {
            int latest = latestSaid(word);
            int hits = Integer.bitCount(latest & told.having[meaning]);
            int misses = Integer.bitCount(latest & ~told.having[meaning]);
            long likelihood = told.weights[kindOf(meaning)];
            for (int i = 0; i < hits; i++) {
                likelihood *= told.hit;
            }
            for (int i = 0; i < misses; i++) {
                likelihood *= told.miss;
            }
            return likelihood;
        }

        private int latestSaid(int word) {
            int scenes = told.saidIn[word];
            for (int i = LATEST; i < MOST_SCENES && Integer.bitCount(scenes) > LATEST; i++) {
                scenes &= scenes - 1;
            }
            return scenes;
        }

        private long ofAll(int word) {
            long sum = 0;
            for (int m = 0; m < MEANINGS; m++) {
                sum += of(word, m);
            }
            return sum;
        }

        long aboveLine(int word, int meaning) {
            long above = of(word, meaning);
            long common = commonDivisor(above, ofAll(word));
            return common == 0 ? 0 : above / common;
        }

        /** The divisor of 0 and the sum is the sum, which makes 0 by 1; where all are 0 it is said here. */
        long belowLine(int word, int meaning) {
            long sum = ofAll(word);
            long common = commonDivisor(of(word, meaning), sum);
            return common == 0 ? 1 : sum / common;
        }

        /** Euclid's steps for two longs stay under a hundred. */
        private static long commonDivisor(long a, long b) {
            long greater = a;
            long lesser = b;
            for (int i = 0; i < 200 && lesser != 0; i++) {
                long rest = greater % lesser;
                greater = lesser;
                lesser = rest;
            }
            return greater;
        }

        int greatest(int word) {
            int best = 0;
            long bestLikelihood = -1;
            for (int m = 0; m < MEANINGS; m++) {
                long likelihood = of(word, m);
                if (likelihood > bestLikelihood) {
                    best = m;
                    bestLikelihood = likelihood;
                }
            }
            return best;
        }
    }

    /** GIVINGS: at most three WORDS, so that at most two MEANINGS are taken when the last one gets its own. */
    private static final class Giver {
        private final Told told;
        /** By WORDS: how many are LEFT, counted once a call and not once for each choice ahead. */
        private final int[] leftCounts = new int[WORDS];

        Giver(Told told) {
            this.told = told;
        }

        int countWays(int words) {
            countLefts(words);
            return ways(words, NONE, NONE);
        }

        int firstFor(int words, int word) {
            countLefts(words);
            int taken = NONE;
            int takenBefore = NONE;
            int others = words;
            for (int w = 0; w < WORDS; w++) {
                if (isIn(words, w)) {
                    others &= ~(1 << w);
                    int meaning = leastFor(w, others, taken, takenBefore);
                    if (meaning == NONE || w == word) {
                        return meaning;
                    }
                    takenBefore = taken;
                    taken = meaning;
                }
            }
            return NONE;
        }

        private void countLefts(int words) {
            for (int w = 0; w < WORDS; w++) {
                leftCounts[w] = isIn(words, w) ? told.countLeft(w, 0) : 0;
            }
        }

        private int leastFor(int word, int others, int taken, int takenBefore) {
            for (int m = 0; m < MEANINGS; m++) {
                if (m != taken && m != takenBefore && told.isLeft(word, m, 0) && ways(others, m, taken) > 0) {
                    return m;
                }
            }
            return NONE;
        }

        /** Each level has one WORD less, and a set has three at most. */
        private int ways(int words, int taken, int takenBefore) {
            int word = firstIn(words);
            if (noWord(word)) {
                return 1;
            }
            int others = words & words - 1;
            if (others == 0) {
                return leftCounts[word] - lost(word, taken) - lost(word, takenBefore);
            }
            int many = 0;
            for (int m = 0; m < MEANINGS; m++) {
                if (m != taken && m != takenBefore && told.isLeft(word, m, 0)) {
                    many += ways(others, m, taken);
                }
            }
            return many;
        }

        private int lost(int word, int taken) {
            return taken != NONE && told.isLeft(word, taken, 0) ? 1 : 0;
        }
    }

    /** NEXT, ENOUGH, HELPER: SCENES chosen among those SHOWN. */
    private static final class Chooser {
        private final Told told;
        /** What ENOUGH must tell apart: by which SCENES MEANINGS that are LEFT are HAD, each such set once. */
        private final int[] unlike = new int[MEANINGS];
        private int unlikeCount = 0;
        private final int[] sets = new int[MOST_SETS];
        private int setCount = 0;

        Chooser(Told told) {
            this.told = told;
        }

        int evenest(int word) {
            int shown = shownFor(word);
            int leftCount = told.countLeft(word, 0);
            int best = NONE;
            int bestGreater = MEANINGS + 1;
            for (int s = 0; s < MOST_SCENES; s++) {
                if (isIn(shown, s)) {
                    int had = countLeftHad(word, 1 << s);
                    int greater = Math.max(had, leftCount - had);
                    if (greater < bestGreater) {
                        best = s;
                        bestGreater = greater;
                    }
                }
            }
            return best;
        }

        int fewestParting(int word) {
            int among = firstShownFor(word);
            listUnlike(word, among);
            for (int size = 0; size <= MOST_CHOSEN; size++) {
                listSets(among, size);
                for (int i = 0; i < setCount; i++) {
                    if (partsAll(sets[i])) {
                        return sets[i];
                    }
                }
            }
            return NONE;
        }

        int mostTelling(int word, int meaning, int size) {
            listSets(firstShownFor(word) & told.having[meaning], size);
            int best = NONE;
            int bestLeft = MEANINGS + 1;
            for (int i = 0; i < setCount; i++) {
                int stillLeft = countLeftHad(word, sets[i]);
                if (stillLeft < bestLeft) {
                    best = sets[i];
                    bestLeft = stillLeft;
                }
            }
            return best;
        }

        private int shownFor(int word) {
            return (1 << told.sceneCount) - 1 & ~told.saidIn[word];
        }

        private int firstShownFor(int word) {
            int shown = shownFor(word);
            int first = 0;
            for (int i = 0; i < MOST_CHOSEN_FROM; i++) {
                int least = shown & -shown;
                first |= least;
                shown &= ~least;
            }
            return first;
        }

        /** How many MEANINGS that are LEFT all these SCENES HAVE. */
        private int countLeftHad(int word, int scenes) {
            int many = 0;
            for (int m = 0; m < MEANINGS; m++) {
                if ((scenes & ~told.having[m]) == 0 && told.isLeft(word, m, 0)) {
                    many++;
                }
            }
            return many;
        }

        private void listUnlike(int word, int among) {
            unlikeCount = 0;
            for (int m = 0; m < MEANINGS; m++) {
                if (told.isLeft(word, m, 0)) {
                    addUnlike(told.having[m] & among);
                }
            }
        }

        private void addUnlike(int scenes) {
            for (int i = 0; i < unlikeCount; i++) {
                if (unlike[i] == scenes) {
                    return;
                }
            }
            if (unlikeCount < unlike.length) {
                unlike[unlikeCount] = scenes;
                unlikeCount++;
            }
        }

        private boolean partsAll(int scenes) {
            for (int i = 0; i < unlikeCount; i++) {
                for (int j = 0; j < i; j++) {
                    if (((unlike[i] ^ unlike[j]) & scenes) == 0) {
                        return false;
                    }
                }
            }
            return true;
        }

        private void listSets(int among, int size) {
            setCount = 0;
            addSets(among, size, MOST_SCENES, 0);
        }

        /** By the greatest SCENE first, which lists sets of one size as their bits rise; three levels at most. */
        private void addSets(int among, int size, int below, int set) {
            if (size <= 0) {
                if (setCount < sets.length) {
                    sets[setCount] = set;
                    setCount++;
                }
                return;
            }
            for (int s = 0; s < below; s++) {
                if (isIn(among, s)) {
                    addSets(among, size - 1, s, set | 1 << s);
                }
            }
        }
    }
}
