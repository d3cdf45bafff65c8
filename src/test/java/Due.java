/** Compares answers with those that are due; a test ends with it, so that a wrong answer fails the run. */
final class Due {
    /** Stands ahead of what is printed, so that the test can be told from it. */
    private final String name;
    private int asked = 0;
    private int wrong = 0;

    Due() {
        this("");
    }

    Due(String name) {
        this.name = name;
    }

    int asked() {
        return asked;
    }

    int wrong() {
        return wrong;
    }

    void is(String call, long got, long want) {
        asked++;
        if (got != want) {
            wrong++;
            System.out.println(name + call + " answered " + got + ", due is " + want);
        }
    }

    void isText(String call, String got, String want) {
        asked++;
        if (!got.equals(want)) {
            wrong++;
            System.out.println(name + call + " is\n  " + got + "\n  and due is\n  " + want);
        }
    }

    void end() {
        if (wrong != 0) {
            System.out.println(wrong + " of " + asked + " answers are not as due");
            System.exit(1);
        }
        System.out.println("all " + asked + " answers are as due");
    }

    /** Feeds a text whose characters are bytes, eight at a time; the last answer of feed. */
    static int feedText(WhichWord x, String text) {
        int last = x.count(5);
        for (int at = 0; at < text.length(); at += 8) {
            int n = Math.min(8, text.length() - at);
            long bytes = 0;
            for (int i = 0; i < n; i++) {
                bytes |= (long) text.charAt(at + i) << 8 * i;
            }
            last = x.feed(n, bytes);
        }
        return last;
    }

    static int tell(WhichWord x, String text) {
        feedText(x, text);
        return x.scene();
    }

    /** A new object to which these scenes were told. */
    static WhichWord of(String... texts) {
        WhichWord x = new WhichWord();
        for (String text : texts) {
            tell(x, text);
        }
        return x;
    }

    static void sayIn(WhichWord x, int word, int... scenes) {
        for (int scene : scenes) {
            x.say(scene, word, true);
        }
    }
}
