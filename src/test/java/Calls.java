/** What several tests share: texts that are typed and read, and objects that are made for them. */
final class Calls {
    static final int BAD = -1, STATE = -2, FULL = -3, NONE = -9, NO = -1000000;
    static final int MOST_BYTES = 200;

    private Calls() {
    }

    /** Types a text, eight bytes a call; answers what the last call did, or the bytes there are. */
    static int type(NoWordNo x, String s) {
        int last = x.count(4);
        for (int from = 0; from < s.length(); from += 8) {
            int n = Math.min(8, s.length() - from);
            long v = 0;
            for (int i = 0; i < n; i++) {
                v = v << 8 | s.charAt(from + i);
            }
            last = x.type(v, n);
        }
        return last;
    }

    static int tongue(NoWordNo x, String s) {
        type(x, s);
        return x.tongue();
    }

    static int say(NoWordNo x, String s) {
        type(x, s);
        return x.say();
    }

    static NoWordNo with(String tongue, String... sayings) {
        NoWordNo x = new NoWordNo();
        if (tongue(x, tongue) < 0) {
            throw new IllegalArgumentException("no TONGUE: " + tongue);
        }
        for (String s : sayings) {
            if (say(x, s) < 0) {
                throw new IllegalArgumentException("no SAYING: " + s);
            }
        }
        return x;
    }

    static NoWordNo withWords(String tongue, int... sets) {
        NoWordNo x = with(tongue);
        for (int set : sets) {
            if (x.word(set) < 0) {
                throw new IllegalArgumentException("no WORD: " + set);
            }
        }
        return x;
    }

    /** The text of a TONGUE whose CHOICES have so many VALUES. */
    static String tongueOf(int... values) {
        StringBuilder s = new StringBuilder();
        for (int n : values) {
            s.append("choice ").append(n).append(';');
        }
        return s.toString();
    }

    /** All of some WORLDS. */
    static int all(NoWordNo x) {
        return (1 << x.count(1)) - 1;
    }

    static String blanks(int n) {
        return " ".repeat(n);
    }
}
