import java.math.BigInteger;
import java.util.ArrayList;
import java.util.HashSet;
import java.util.List;
import java.util.Set;
import java.util.TreeSet;

/**
 * The document a second time, written slowly and with other means than the class: scenes stay texts, sets
 * are sets, and every question goes over everything. It knows no refusals but those it is asked for by name.
 */
final class Plain {
    record Saying(int scene, int a, int b, int c) {
    }

    String text = "";
    List<String> scenes = new ArrayList<>();
    List<Set<Integer>> said = new ArrayList<>();
    int[] weights = {10, 10, 10, 10, 10, 10, 10, 10};
    int hit = 90;
    int miss = 10;
    int[] given = {-9, -9, -9, -9, -9, -9};
    List<Saying> sayings = new ArrayList<>();
    Plain kept = null;
    int[] refused = new int[7];

    int no(int number) {
        refused[-number]++;
        return number;
    }

    private void take(Plain from) {
        scenes = new ArrayList<>(from.scenes);
        said = new ArrayList<>();
        for (Set<Integer> words : from.said) {
            said.add(new TreeSet<>(words));
        }
        weights = from.weights.clone();
        hit = from.hit;
        miss = from.miss;
        given = from.given.clone();
        sayings = new ArrayList<>(from.sayings);
    }

    /** A table of what may follow: the state's name is what was read last. */
    static int fault(String s) {
        String state = "start";
        int things = 1;
        int doings = 1;
        for (int p = 0; p < s.length(); p++) {
            char c = s.charAt(p);
            char before = p == 0 ? ' ' : s.charAt(p - 1);
            boolean letter = "abcdef".indexOf(c) >= 0;
            boolean digit = "0123".indexOf(c) >= 0 && c - '0' < things;
            String then = "";
            switch (state) {
                case "start" -> then = letter ? "mark" : "";
                case "mark", "star" -> {
                    if (letter && state.equals("mark") && c > before) {
                        then = "mark";
                    } else if (c == '*' && state.equals("mark")) {
                        then = "star";
                    } else if (c == ',' && things < 4) {
                        then = "start";
                        things++;
                    } else if (c == ';') {
                        then = "doings";
                    }
                }
                case "doings" -> then = digit ? "who" : "";
                case "who" -> then = "xyz".indexOf(c) >= 0 ? "what" : "";
                case "what" -> then = digit && c != s.charAt(p - 2) ? "whom" : "";
                default -> {
                    if (c == ',' && doings < 3) {
                        then = "doings";
                        doings++;
                    }
                }
            }
            if (then.isEmpty()) {
                return p;
            }
            state = then;
        }
        return state.equals("mark") || state.equals("star") || state.equals("whom") ? -1 : s.length();
    }

    int scene() {
        if (scenes.size() == 24) {
            return no(-6);
        }
        int fault = fault(text);
        if (fault < 0) {
            scenes.add(text);
            said.add(new TreeSet<>());
        }
        text = "";
        return fault < 0 ? scenes.size() - 1 : -20 - fault;
    }

    int takeBack() {
        if (scenes.isEmpty()) {
            return no(-3);
        }
        int last = scenes.size() - 1;
        scenes.remove(last);
        said.remove(last);
        sayings.removeIf(s -> s.scene() == last);
        return last;
    }

    String[] things(int scene) {
        return scenes.get(scene).split(";")[0].split(",");
    }

    String[] doings(int scene) {
        String[] parts = scenes.get(scene).split(";");
        return parts.length < 2 ? new String[0] : parts[1].split(",");
    }

    int thing(int scene, int i) {
        String[] things = things(scene);
        if (i < 0 || i >= things.length) {
            return -9;
        }
        int bits = 0;
        for (char c : things[i].toCharArray()) {
            bits += c == '*' ? 64 : 1 << c - 'a';
        }
        return bits;
    }

    int doing(int scene, int i) {
        String[] doings = doings(scene);
        if (i < 0 || i >= doings.length) {
            return -9;
        }
        String d = doings[i];
        return 100 * (d.charAt(0) - '0') + 10 * (d.charAt(1) - 'x') + d.charAt(2) - '0';
    }

    /** Names of MEANINGS in their order. */
    static final List<String> NAMES = names();

    private static List<String> names() {
        List<String> names = new ArrayList<>();
        String marks = "abcdef";
        for (char m : marks.toCharArray()) {
            names.add("0" + m);
        }
        for (char m : marks.toCharArray()) {
            for (char n = (char) (m + 1); n <= 'f'; n++) {
                names.add("1" + m + n);
            }
        }
        for (char m : marks.toCharArray()) {
            for (int k = 2; k <= 4; k++) {
                names.add("2" + m + k);
            }
        }
        for (char v = 'x'; v <= 'z'; v++) {
            names.add("3" + v);
        }
        for (int kind = 4; kind <= 5; kind++) {
            for (char v = 'x'; v <= 'z'; v++) {
                for (char m : marks.toCharArray()) {
                    names.add(kind + "" + v + m);
                }
            }
        }
        for (int kind = 6; kind <= 7; kind++) {
            for (char m : marks.toCharArray()) {
                names.add(kind + "" + m);
            }
        }
        return names;
    }

    static int kind(int meaning) {
        return NAMES.get(meaning).charAt(0) - '0';
    }

    boolean has(int scene, int meaning) {
        String name = NAMES.get(meaning);
        String p = name.substring(1, 2);
        String q = name.substring(name.length() - 1);
        String[] things = things(scene);
        int having = 0;
        boolean found = false;
        for (String thing : things) {
            boolean both = thing.contains(p) && thing.contains(q);
            boolean here = thing.endsWith("*");
            having += thing.contains(p) ? 1 : 0;
            switch (kind(meaning)) {
                case 0, 1 -> found |= both;
                case 6 -> found |= both && here;
                case 7 -> found |= both && !here;
                default -> {
                }
            }
        }
        for (String d : doings(scene)) {
            if (d.substring(1, 2).equals(p)) {
                String who = things[d.charAt(0) - '0'];
                String whom = things[d.charAt(2) - '0'];
                switch (kind(meaning)) {
                    case 3 -> found = true;
                    case 4 -> found |= who.contains(q);
                    case 5 -> found |= whom.contains(q);
                    default -> {
                    }
                }
            }
        }
        return kind(meaning) == 2 ? having == Integer.parseInt(q) : found;
    }

    List<Integer> saidIn(int word) {
        List<Integer> in = new ArrayList<>();
        for (int s = 0; s < scenes.size(); s++) {
            if (said.get(s).contains(word)) {
                in.add(s);
            }
        }
        return in;
    }

    List<Integer> shown(int word) {
        List<Integer> shown = new ArrayList<>();
        for (int s = 0; s < scenes.size(); s++) {
            if (!said.get(s).contains(word)) {
                shown.add(s);
            }
        }
        return shown;
    }

    List<Integer> left(int word, int slips) {
        List<Integer> left = new ArrayList<>();
        for (int m = 0; m < 90; m++) {
            int without = 0;
            for (int s : saidIn(word)) {
                without += has(s, m) ? 0 : 1;
            }
            if (without <= slips) {
                left.add(m);
            }
        }
        return left;
    }

    int plainest(int word, int slips) {
        for (int weight = 99; weight > 0; weight--) {
            for (int m : left(word, slips)) {
                if (weights[kind(m)] == weight) {
                    return m;
                }
            }
        }
        return -9;
    }

    int judge(int word, int meaning) {
        for (int s : saidIn(word)) {
            if (!has(s, meaning)) {
                return s;
            }
        }
        return -9;
    }

    long likelihood(int word, int meaning) {
        List<Integer> in = saidIn(word);
        long product = weights[kind(meaning)];
        for (int i = Math.max(0, in.size() - 6); i < in.size(); i++) {
            product *= has(in.get(i), meaning) ? hit : miss;
        }
        return product;
    }

    long chance(int word, int meaning, int part) {
        BigInteger above = BigInteger.valueOf(likelihood(word, meaning));
        BigInteger below = BigInteger.ZERO;
        for (int m = 0; m < 90; m++) {
            below = below.add(BigInteger.valueOf(likelihood(word, m)));
        }
        if (above.signum() == 0) {
            return part;
        }
        BigInteger common = above.gcd(below);
        return (part == 0 ? above : below).divide(common).longValueExact();
    }

    int likeliest(int word) {
        int best = 0;
        for (int m = 1; m < 90; m++) {
            if (likelihood(word, m) > likelihood(word, best)) {
                best = m;
            }
        }
        return best;
    }

    /** How many GIVINGS there are, and into first the MEANINGS of the first of all. */
    int givings(List<Integer> words, int[] first) {
        List<List<Integer>> lefts = new ArrayList<>();
        for (int w : words) {
            lefts.add(left(w, 0));
        }
        List<Integer> any = List.of(-1);
        List<Integer> second = words.size() > 1 ? lefts.get(1) : any;
        List<Integer> third = words.size() > 2 ? lefts.get(2) : List.of(-2);
        int many = 0;
        for (int a : lefts.get(0)) {
            for (int b : second) {
                for (int c : third) {
                    if (a != b && a != c && b != c) {
                        if (many == 0) {
                            first[0] = a;
                            first[1] = b;
                            first[2] = c;
                        }
                        many++;
                    }
                }
            }
        }
        return many;
    }

    List<Integer> twos(int word) {
        List<Integer> twos = new ArrayList<>();
        List<Integer> left = left(word, 0);
        for (int a = 0; a < 90; a++) {
            for (int b = a + 1; b < 90; b++) {
                boolean all = !left.contains(a) && !left.contains(b);
                for (int s : saidIn(word)) {
                    all = all && (has(s, a) || has(s, b));
                }
                if (all) {
                    twos.add(100 * a + b);
                }
            }
        }
        return twos;
    }

    int orders() {
        int[][] whoDoingWhom = {{0, 1, 2}, {0, 2, 1}, {1, 0, 2}, {2, 0, 1}, {1, 2, 0}, {2, 1, 0}};
        int bits = 63;
        for (Saying s : sayings) {
            int[] words = {s.a(), s.b(), s.c()};
            for (int order = 0; order < 6; order++) {
                int[] at = whoDoingWhom[order];
                if (!fits(s.scene(), given[words[at[0]]], given[words[at[1]]], given[words[at[2]]])) {
                    bits &= ~(1 << order);
                }
            }
        }
        return bits;
    }

    private boolean fits(int scene, int who, int doing, int whom) {
        if (who < 0 || doing < 0 || whom < 0 || kind(who) != 0 || kind(doing) != 3 || kind(whom) != 0) {
            return false;
        }
        String[] things = things(scene);
        for (String d : doings(scene)) {
            if (NAMES.get(doing).charAt(1) == d.charAt(1)
                    && things[d.charAt(0) - '0'].contains(NAMES.get(who).substring(1))
                    && things[d.charAt(2) - '0'].contains(NAMES.get(whom).substring(1))) {
                return true;
            }
        }
        return false;
    }

    int next(int word) {
        int best = -9;
        int least = 1000;
        for (int s : shown(word)) {
            int had = 0;
            int not = 0;
            for (int m : left(word, 0)) {
                had += has(s, m) ? 1 : 0;
                not += has(s, m) ? 0 : 1;
            }
            if (Math.max(had, not) < least) {
                least = Math.max(had, not);
                best = s;
            }
        }
        return best;
    }

    List<Integer> firstTwelve(int word) {
        List<Integer> shown = shown(word);
        return shown.subList(0, Math.min(12, shown.size()));
    }

    /** Which of some SCENES HAVE a MEANING, written out. */
    private String row(List<Integer> among, int meaning) {
        StringBuilder row = new StringBuilder();
        for (int s : among) {
            row.append(has(s, meaning) ? '1' : '0');
        }
        return row.toString();
    }

    private static String cut(String row, int set) {
        StringBuilder cut = new StringBuilder();
        for (int i = 0; i < row.length(); i++) {
            cut.append((set >> i & 1) != 0 ? row.charAt(i) : '.');
        }
        return cut.toString();
    }

    private static int bits(List<Integer> among, int set) {
        int bits = 0;
        for (int i = 0; i < among.size(); i++) {
            bits |= (set >> i & 1) << among.get(i);
        }
        return bits;
    }

    int enough(int word) {
        List<Integer> among = firstTwelve(word);
        Set<String> rows = new HashSet<>();
        for (int m : left(word, 0)) {
            rows.add(row(among, m));
        }
        for (int size = 0; size <= 3; size++) {
            for (int set = 0; set < 1 << among.size(); set++) {
                if (Integer.bitCount(set) == size) {
                    Set<String> parted = new HashSet<>();
                    for (String row : rows) {
                        parted.add(cut(row, set));
                    }
                    if (parted.size() == rows.size()) {
                        return bits(among, set);
                    }
                }
            }
        }
        return -9;
    }

    int help(int word, int meaning, int n) {
        List<Integer> among = firstTwelve(word);
        List<String> rows = new ArrayList<>();
        for (int m : left(word, 0)) {
            rows.add(row(among, m));
        }
        String meant = row(among, meaning);
        int best = -9;
        int fewest = 1000;
        for (int set = 0; set < 1 << among.size(); set++) {
            if (Integer.bitCount(set) == n && cut(meant, set).indexOf('0') < 0) {
                int still = 0;
                for (String row : rows) {
                    still += cut(row, set).indexOf('0') < 0 ? 1 : 0;
                }
                if (still < fewest) {
                    fewest = still;
                    best = bits(among, set);
                }
            }
        }
        return best;
    }

    int part(int a, int b) {
        for (int s = 0; s < scenes.size(); s++) {
            if (has(s, a) != has(s, b)) {
                return s;
            }
        }
        return -9;
    }

    int never() {
        int many = 0;
        for (int a = 0; a < 90; a++) {
            for (int b = a + 1; b < 90; b++) {
                many += part(a, b) < 0 ? 1 : 0;
            }
        }
        return many;
    }

    int image() {
        kept = new Plain();
        kept.take(this);
        return scenes.size();
    }

    int restore() {
        if (kept == null) {
            return no(-3);
        }
        take(kept);
        return scenes.size();
    }

    int count(int what) {
        int many = 0;
        for (int s = 0; s < scenes.size(); s++) {
            many += switch (what) {
                case 0 -> 1;
                case 1 -> things(s).length;
                case 2 -> doings(s).length;
                case 3 -> said.get(s).size();
                default -> 0;
            };
        }
        return switch (what) {
            case 0, 1, 2, 3 -> many;
            case 4 -> sayings.size();
            case 5 -> text.length();
            case 11, 12, 13, 14, 15, 16 -> refused[what - 10];
            default -> -9;
        };
    }
}
