/** All that can be seen of an object, written out, so that two of them can be compared. */
final class Look {
    private Look() {
    }

    /**
     * What there is, what the IMAGE has, and the TEXT, which only scene() shows. The object is spent by it: it
     * takes some 250 of its 512 calls where there are 24 SCENES.
     */
    static String whole(WhichWord x) {
        StringBuilder seen = new StringBuilder(now(x));
        int restored = x.restore();
        seen.append(" | restored ").append(restored).append(": ").append(restored < 0 ? "" : now(x));
        int told = x.scene();
        seen.append(" | told ").append(told);
        for (int i = 0; told >= 0 && i < 4; i++) {
            seen.append(' ').append(x.thing(told, i));
        }
        return seen.toString();
    }

    /** What there is but the IMAGE, the bytes of the TEXT and REFUSALS. */
    static String now(WhichWord x) {
        StringBuilder seen = new StringBuilder("counts");
        for (int what = 0; what <= 5; what++) {
            seen.append(' ').append(x.count(what));
        }
        lookAtScenes(x, seen);
        lookAtWords(x, seen);
        lookAtNumbers(x, seen);
        seen.append(" orders ").append(x.orders()).append(" never ").append(x.never());
        return seen.toString();
    }

    private static void lookAtScenes(WhichWord x, StringBuilder seen) {
        int scenes = x.count(0);
        for (int scene = 0; scene < scenes; scene++) {
            seen.append(" scene ").append(x.thing(scene, 0)).append(' ').append(x.thing(scene, 1));
            seen.append(' ').append(x.doing(scene, 0));
        }
    }

    private static void lookAtWords(WhichWord x, StringBuilder seen) {
        for (int word = 0; word < 6; word++) {
            seen.append(" word ").append(x.said(word)).append(' ').append(x.left(word, 0, -1));
            seen.append(' ').append(x.left(word, 1, -1)).append(' ').append(x.judge(word, 5));
            seen.append(' ').append(x.likelihood(word, 0)).append(' ').append(x.next(word));
            seen.append(' ').append(x.enough(word));
        }
    }

    /** Those that are told only when they are changed are changed and put back. */
    private static void lookAtNumbers(WhichWord x, StringBuilder seen) {
        for (int kind = 0; kind < 8; kind++) {
            int weight = x.weight(kind, 1);
            x.weight(kind, weight);
            seen.append(" weight ").append(weight);
        }
        for (int what = 0; what < 2; what++) {
            int v = x.set(what, 1);
            x.set(what, v);
            seen.append(" set ").append(v);
        }
        for (int word = 0; word < 6; word++) {
            int meaning = x.give(word, -1);
            x.give(word, meaning < 0 ? -1 : meaning);
            seen.append(" given ").append(meaning);
        }
    }
}
