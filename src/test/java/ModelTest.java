import java.util.ArrayList;
import java.util.Arrays;
import java.util.HashMap;
import java.util.List;
import java.util.Map;
import java.util.Random;
import java.util.TreeSet;

/**
 * Long runs of calls by chance (always the same chance), answered by the class and by a
 * model that is written another way: it parses by recursion over a list of tokens, finds
 * lengths by going round until nothing changes, and keeps worlds as rows of values.
 */
public final class ModelTest {
    private static final int RUNS = 120;
    private static final int CALLS = 512;
    private static final int TALKS = 400;
    private static int wrong = 0;

    public static void main(String[] args) {
        long calls = 0;
        for (int run = 0; run < RUNS && wrong < 20; run++) {
            calls += oneRun(run);
        }
        for (int run = 0; run < TALKS && wrong < 20; run++) {
            calls += oneTalk(run);
        }
        for (int run = 0; run < Texts.RIGHT && wrong < 20; run++) {
            calls += oneSweep(run);
        }
        System.out.println(calls + " calls, " + wrong + " wrong");
        if (wrong != 0) {
            System.exit(1);
        }
    }

    private static int oneRun(int run) {
        Random chance = new Random(run);
        NoWordNo x = new NoWordNo();
        Model m = new Model();
        List<String> told = new ArrayList<>();
        if (run % 8 != 0) {
            speak(run, chance, x, m, told, Texts.TONGUES[run % Texts.RIGHT], true);
        }
        while (told.size() < CALLS - 60) {
            int kind = chance.nextInt(100);
            if (kind < 8) {
                speak(run, chance, x, m, told, Texts.saying(chance, m), false);
            } else if (kind == 8 && chance.nextInt(3) == 0) {
                speak(run, chance, x, m, told, Texts.tongue(chance), true);
            } else {
                step(run, chance, x, m, told);
            }
        }
        return told.size();
    }

    /** A CONTRACT by chance, told world by world, and what two know of it. */
    private static int oneTalk(int run) {
        Random chance = new Random(-1 - run);
        NoWordNo x = new NoWordNo();
        Model m = new Model();
        List<String> told = new ArrayList<>();
        speak(run, chance, x, m, told, Texts.TONGUES[run % 5], true);
        speak(run, chance, x, m, told, Texts.set(m, chance.nextInt(m.all()) + 1), false);
        while (told.size() < CALLS - 10) {
            int one = chance.nextInt(8);
            int two = chance.nextInt(8);
            int world = chance.nextInt(m.worlds.size());
            int k = chance.nextInt(8);
            due(run, told, "talk(" + one + ", " + two + ", " + world + ")", x.talk(one, two, world), m.talk(one, two, world));
            due(run, told, "common(" + one + ", " + two + ", " + world + ")", x.common(one, two, world), m.common(one, two, world));
            due(run, told, "silence(" + one + ", " + two + ", " + k + ")", x.silence(one, two, k), m.silence(one, two, k));
        }
        return told.size();
    }

    /** Every SET of a TONGUE, without WORDS: how it is said, made and refused. */
    private static long oneSweep(int run) {
        Random chance = new Random(run);
        NoWordNo x = new NoWordNo();
        Model m = new Model();
        List<String> told = new ArrayList<>();
        speak(run, chance, x, m, told, Texts.TONGUES[run], true);
        long calls = 0;
        int all = m.all();
        for (int set = 0; set <= all && wrong < 20; set++) {
            if (told.size() > CALLS - 50) {
                calls += told.size();
                told.clear();
                x = new NoWordNo();
                m.clear();
                speak(run, chance, x, m, told, Texts.TONGUES[run], true);
            }
            due(run, told, "shortest(" + set + ")", x.shortest(set), m.shortest(set));
            due(run, told, "refusal(" + set + ")", x.refusal(set), m.refusal(set));
            due(run, told, "clause(" + set + ", 1)", x.clause(set, 1), m.clause(set, 1));
            for (int i = 0; i < 3; i++) {
                due(run, told, "made(" + set + ", " + i + ")", x.made(set, i), m.made(set, i));
            }
            for (int i = -1; i <= m.terms(set, -1); i++) {
                due(run, told, "terms(" + set + ", " + i + ")", x.terms(set, i), m.terms(set, i));
            }
        }
        return calls + told.size();
    }

    /** Types a text and has it read; what could not be read mostly goes. */
    private static void speak(int run, Random chance, NoWordNo x, Model m, List<String> told, String text, boolean tongue) {
        for (int from = 0; from < text.length();) {
            int n = Math.min(text.length() - from, 1 + chance.nextInt(8));
            long v = chance.nextLong();
            for (int i = 0; i < n; i++) {
                v = v << 8 | text.charAt(from + i);
            }
            from += n;
            due(run, told, "type(" + v + ", " + n + ")", x.type(v, n), m.type(v, n));
        }
        if (tongue) {
            due(run, told, "tongue()", x.tongue(), m.tongue());
        } else {
            due(run, told, "say()", x.say(), m.say());
        }
        if (chance.nextInt(8) != 0) {
            due(run, told, "clear()", x.clear(), m.clear());
        }
    }

    private static void due(int run, List<String> told, String call, long got, long want) {
        told.add(call + " -> " + got);
        if (got != want) {
            wrong++;
            System.out.println("run " + run + ": " + call + " answered " + got + ", the model says " + want);
            int from = Math.max(0, told.size() - 30);
            System.out.println("  " + told.subList(from, told.size()));
        }
    }

    private static void step(int run, Random chance, NoWordNo x, Model m, List<String> told) {
        int set = number(chance, m.all());
        int other = number(chance, m.all());
        int small = number(chance, 2);
        int world = number(chance, m.worlds.size() - 1);
        int one = number(chance, 7);
        int two = number(chance, 7);
        int k = number(chance, m.left.size() - 1);
        int l = number(chance, m.left.size() - 1);
        switch (chance.nextInt(38)) {
            case 0: due(run, told, "clear()", x.clear(), m.clear()); break;
            case 1: due(run, told, "say()", x.say(), m.say()); break;
            case 2:
                if (chance.nextInt(20) == 0) {
                    due(run, told, "tongue()", x.tongue(), m.tongue());
                }
                break;
            case 3: case 4: case 5: due(run, told, "refusal(" + set + ")", x.refusal(set), m.refusal(set)); break;
            case 6: due(run, told, "unsay()", x.unsay(), m.unsay()); break;
            case 7: due(run, told, "word(" + set + ")", x.word(set), m.word(set)); break;
            case 8:
                if (chance.nextInt(2) == 0) {
                    due(run, told, "unword()", x.unword(), m.unword());
                }
                break;
            case 9: due(run, told, "value(" + world + ", " + small + ")", x.value(world, small), m.value(world, small)); break;
            case 10: case 11: due(run, told, "saying(" + k + ", " + small + ")", x.saying(k, small), m.saying(k, small)); break;
            case 12: due(run, told, "alike(" + k + ", " + l + ")", x.alike(k, l), m.alike(k, l)); break;
            case 13: case 14: due(run, told, "shortest(" + set + ")", x.shortest(set), m.shortest(set)); break;
            case 15: case 16: due(run, told, "made(" + set + ", " + small + ")", x.made(set, small), m.made(set, small)); break;
            case 17: case 18: {
                int i = chance.nextInt(3) == 0 ? -1 : number(chance, 4);
                due(run, told, "terms(" + set + ", " + i + ")", x.terms(set, i), m.terms(set, i));
                break;
            }
            case 19: due(run, told, "refusal(" + other + ")", x.refusal(other), m.refusal(other)); break;
            case 20: due(run, told, "worst(" + small + ")", x.worst(small), m.worst(small)); break;
            case 21: due(run, told, "saves(" + small + ")", x.saves(small), m.saves(small)); break;
            case 22: due(run, told, "contract()", x.contract(), m.contract(-1)); break;
            case 23: due(run, told, "gap(" + set + ")", x.gap(set), m.gap(set)); break;
            case 24: case 25: due(run, told, "clause(" + set + ", " + small + ")", x.clause(set, small), m.clause(set, small)); break;
            case 26: due(run, told, "lost(" + k + ")", x.lost(k), m.lost(k)); break;
            case 27: case 28: due(run, told, "common(" + one + ", " + two + ", " + world + ")", x.common(one, two, world), m.common(one, two, world)); break;
            case 29: case 30: due(run, told, "talk(" + one + ", " + two + ", " + world + ")", x.talk(one, two, world), m.talk(one, two, world)); break;
            case 31: case 32: {
                int turns = chance.nextInt(3) == 0 ? number(chance, 30) : chance.nextInt(5);
                due(run, told, "silence(" + one + ", " + two + ", " + turns + ")", x.silence(one, two, turns), m.silence(one, two, turns));
                break;
            }
            case 33: {
                int kind = number(chance, 5);
                due(run, told, "mark(" + kind + ", " + k + ")", x.mark(kind, k), m.mark(kind, k));
                break;
            }
            case 34: due(run, told, "keep(" + small + ")", x.keep(small), m.keep(small)); break;
            case 35: due(run, told, "back(" + small + ")", x.back(small), m.back(small)); break;
            case 36: {
                int what = number(chance, 4);
                due(run, told, "count(" + what + ")", x.count(what), m.count(what));
                break;
            }
            default: due(run, told, "trace()", x.trace(), m.trace); break;
        }
    }

    /** Mostly 0 .. most, now and then a little beyond, seldom far off. */
    private static int number(Random chance, int most) {
        int kind = chance.nextInt(40);
        if (kind == 0) {
            return chance.nextInt();
        }
        if (kind == 1) {
            return -1;
        }
        if (kind == 2) {
            return most + 1;
        }
        return most < 0 ? 0 : chance.nextInt(most + 1);
    }

    /** Texts that are mostly right, and now and then spoilt by one byte. */
    private static final class Texts {
        /** So many of them, from the first on, can be read. */
        static final int RIGHT = 12;
        static final String[] TONGUES = {
            "choice 2;choice 2;choice 2;", "choice 3;choice 3;", "choice 2;choice 4;", "choice 4;choice 2;",
            "choice 9;", "choice 2;choice 3;", "choice 3 ; choice 2 ; ", "choice 2;", "choice8;", "choice 2;choice 2;",
            "", "  ", "choice 2;choice 2;choice 3;", "choice 5;choice 2;", "choice 2;choice 2;choice 2;choice 2;",
        };
        private static final String BYTES = "abcdw0123456789 ;|&()choiceABC?\t\u00e4\u0000";

        static String tongue(Random chance) {
            return spoilt(chance, TONGUES[chance.nextInt(TONGUES.length)]);
        }

        static String saying(Random chance, Model m) {
            StringBuilder s = new StringBuilder();
            put(chance, m, s, 0);
            String all = s.toString();
            return spoilt(chance, all.length() > 220 ? all.substring(0, 220) : all);
        }

        static String set(Model m, int set) {
            StringBuilder s = new StringBuilder();
            for (int w = 0; w < m.worlds.size(); w++) {
                if ((set >> w & 1) == 1) {
                    s.append(s.length() == 0 ? "" : "|");
                    for (int c = 0; c < m.counts.length; c++) {
                        s.append(c == 0 ? "" : "&").append((char) ('a' + c)).append(m.worlds.get(w)[c]);
                    }
                }
            }
            return s.toString();
        }

        private static void put(Random chance, Model m, StringBuilder s, int depth) {
            int terms = 1 + chance.nextInt(depth > 2 ? 2 : 5);
            for (int i = 0; i < terms; i++) {
                if (i > 0) {
                    s.append(chance.nextBoolean() ? " | " : "|");
                }
                int factors = 1 + chance.nextInt(2);
                for (int j = 0; j < factors; j++) {
                    if (j > 0) {
                        s.append(chance.nextBoolean() ? " & " : "&");
                    }
                    if (chance.nextInt(4) == 0 && depth < 11) {
                        s.append('(');
                        put(chance, m, s, chance.nextInt(6) == 0 ? depth + 1 : depth + 3);
                        s.append(')');
                    } else {
                        sign(chance, m, s);
                    }
                }
            }
        }

        private static void sign(Random chance, Model m, StringBuilder s) {
            int g = chance.nextInt(m.counts.length + 1);
            int n;
            if (g == m.counts.length) {
                if (m.words.isEmpty() && m.counts.length > 0) {
                    g = 0;
                    n = m.counts[0];
                } else {
                    n = m.words.size();
                }
            } else {
                n = m.counts[g];
            }
            s.append(g == m.counts.length ? 'w' : (char) ('a' + g));
            s.append(chance.nextBoolean() ? " " : "").append(n == 0 ? 0 : chance.nextInt(n));
        }

        private static String spoilt(Random chance, String s) {
            if (chance.nextInt(5) != 0) {
                return s;
            }
            int i = chance.nextInt(s.length() + 1);
            char c = BYTES.charAt(chance.nextInt(BYTES.length()));
            switch (chance.nextInt(4)) {
                case 0: return s.substring(0, i) + c + s.substring(i);
                case 1: return i < s.length() ? s.substring(0, i) + s.substring(i + 1) : s;
                case 2: return i < s.length() ? s.substring(0, i) + c + s.substring(i + 1) : s;
                default: return s.substring(0, i);
            }
        }
    }

    private static final class Fault extends RuntimeException {
        private static final long serialVersionUID = 1L;
        final int place;

        Fault(int place) {
            this.place = place;
        }
    }

    private static final class Model {
        private static final int BAD = -1, STATE = -2, FULL = -3, NONE = -9, NO = -1000000;

        String text = "";
        int[] counts = {};
        List<int[]> worlds = new ArrayList<>(List.of(new int[0]));
        List<Integer> left = new ArrayList<>();
        List<Integer> many = new ArrayList<>();
        List<Integer> words = new ArrayList<>();
        Map<Integer, List<List<Integer>>> images = new HashMap<>();
        long trace = 0;

        private final Map<String, int[]> lengthsOf = new HashMap<>();

        int all() {
            return (1 << worlds.size()) - 1;
        }

        private boolean isSet(int set) {
            return set >= 0 && set <= all();
        }

        // ---- texts

        int type(long v, int n) {
            if (text.length() + n > 200) {
                return FULL;
            }
            StringBuilder s = new StringBuilder(text);
            for (int i = n; i > 0; i--) {
                s.append((char) (v >> 8 * (i - 1) & 255));
            }
            text = s.toString();
            return text.length();
        }

        int clear() {
            int n = text.length();
            text = "";
            return n;
        }

        /** The tokens of THE TEXT with their places; one of a byte that begins none ends them. */
        private List<String> tokens;
        private List<Integer> places;
        private int at;
        private int signs;

        private void cut() {
            tokens = new ArrayList<>();
            places = new ArrayList<>();
            at = 0;
            int i = 0;
            while (i < text.length()) {
                if (text.charAt(i) == ' ') {
                    i++;
                    continue;
                }
                String pattern = text.charAt(i) >= 'a' && text.charAt(i) <= 'z' ? "[a-z]" : "[0-9]";
                int end = i;
                while (end < text.length() && text.substring(end, end + 1).matches(pattern)) {
                    end++;
                }
                end = Math.max(end, i + 1);
                tokens.add(text.substring(i, end));
                places.add(i);
                i = end;
            }
            tokens.add("end");
            places.add(text.length());
        }

        private Fault fault() {
            return new Fault(places.get(at));
        }

        private boolean ended() {
            return at == tokens.size() - 1;
        }

        private boolean next(String token) {
            if (!ended() && tokens.get(at).equals(token)) {
                at++;
                return true;
            }
            return false;
        }

        private void must(String token) {
            if (!next(token)) {
                throw fault();
            }
        }

        private int number(int least, int most) {
            for (int n = least; n <= most; n++) {
                if (next(Integer.toString(n))) {
                    return n;
                }
            }
            throw fault();
        }

        int tongue() {
            cut();
            List<Integer> read = new ArrayList<>();
            int product = 1;
            try {
                while (!ended()) {
                    if (read.size() == 3) {
                        throw fault();
                    }
                    must("choice");
                    read.add(number(2, 9 / product));
                    product *= read.get(read.size() - 1);
                    must(";");
                }
            } catch (Fault f) {
                return -10 - f.place;
            }
            counts = read.stream().mapToInt(Integer::intValue).toArray();
            worlds = new ArrayList<>(List.of(new int[0]));
            for (int n : counts) {
                List<int[]> more = new ArrayList<>();
                for (int v = 0; v < n; v++) {
                    for (int[] w : worlds) {
                        int[] longer = Arrays.copyOf(w, w.length + 1);
                        longer[w.length] = v;
                        more.add(longer);
                    }
                }
                worlds = more;
            }
            text = "";
            left.clear();
            many.clear();
            words.clear();
            images.clear();
            lengthsOf.clear();
            return counts.length;
        }

        int say() {
            if (left.size() == 8) {
                return FULL;
            }
            cut();
            signs = 0;
            try {
                int set = readSaying(0);
                if (!ended()) {
                    throw fault();
                }
                left.add(set);
                many.add(signs);
            } catch (Fault f) {
                return -10 - f.place;
            }
            text = "";
            return left.size();
        }

        private int readSaying(int depth) {
            int set = readTerm(depth);
            while (next("|")) {
                set |= readTerm(depth);
            }
            return set;
        }

        private int readTerm(int depth) {
            int set = readFactor(depth);
            while (next("&")) {
                set &= readFactor(depth);
            }
            return set;
        }

        private int readFactor(int depth) {
            if (depth < 9 && next("(")) {
                int set = readSaying(depth + 1);
                must(")");
                return set;
            }
            if (next("w")) {
                signs++;
                return words.get(number(0, words.size() - 1));
            }
            for (int c = 0; c < counts.length; c++) {
                if (next("abc".substring(c, c + 1))) {
                    signs++;
                    return having(c, number(0, counts[c] - 1));
                }
            }
            throw fault();
        }

        private int having(int c, int v) {
            int set = 0;
            for (int w = 0; w < worlds.size(); w++) {
                if (worlds.get(w)[c] == v) {
                    set |= 1 << w;
                }
            }
            return set;
        }

        // ---- sayings and words

        int unsay() {
            if (left.isEmpty()) {
                return STATE;
            }
            left.remove(left.size() - 1);
            many.remove(many.size() - 1);
            return left.size();
        }

        int word(int set) {
            if (!isSet(set)) {
                return BAD;
            }
            if (words.size() == 3) {
                return FULL;
            }
            words.add(set);
            return words.size();
        }

        int unword() {
            int n = words.size();
            words.clear();
            return n;
        }

        int value(int world, int choice) {
            if (world < 0 || world >= worlds.size() || choice < 0 || choice >= counts.length) {
                return BAD;
            }
            return worlds.get(world)[choice];
        }

        private boolean isSaying(int k) {
            return k >= 0 && k < left.size();
        }

        int saying(int k, int what) {
            if (!isSaying(k) || what < 0 || what > 1) {
                return BAD;
            }
            return (what == 0 ? left : many).get(k);
        }

        int alike(int k, int l) {
            return isSaying(k) && isSaying(l) ? left.get(k).equals(left.get(l)) ? 1 : 0 : BAD;
        }

        // ---- short sayings

        private Map<Integer, Integer> signNumbers(List<Integer> withWords) {
            Map<Integer, Integer> first = new HashMap<>();
            for (int c = 0; c < counts.length; c++) {
                for (int v = 0; v < counts[c]; v++) {
                    first.putIfAbsent(having(c, v), 10 * c + v);
                }
            }
            for (int i = 0; i < withWords.size(); i++) {
                first.putIfAbsent(withWords.get(i), 30 + i);
            }
            return first;
        }

        private int[] lengths(List<Integer> withWords) {
            String key = new TreeSet<>(withWords).toString();
            int[] known = lengthsOf.get(key);
            if (known != null) {
                return known;
            }
            int[] length = new int[all() + 1];
            Arrays.fill(length, 1000);
            for (int set : signNumbers(withWords).keySet()) {
                length[set] = 1;
            }
            boolean changed = true;
            while (changed) {
                changed = false;
                for (int x = 0; x < length.length; x++) {
                    for (int y = 0; y < x; y++) {
                        int n = length[x] + length[y];
                        if (n < length[x & y]) {
                            length[x & y] = n;
                            changed = true;
                        }
                        if (n < length[x | y]) {
                            length[x | y] = n;
                            changed = true;
                        }
                    }
                }
            }
            lengthsOf.put(key, length);
            return length;
        }

        private int lengthOf(int set) {
            int n = lengths(words)[set];
            return n >= 1000 ? NONE : n;
        }

        int shortest(int set) {
            return isSet(set) ? lengthOf(set) : BAD;
        }

        int made(int set, int what) {
            if (!isSet(set) || what < 0 || what > 2) {
                return BAD;
            }
            Integer sign = signNumbers(words).get(set);
            if (sign != null) {
                return new int[] {0, sign, 0}[what];
            }
            int[] length = lengths(words);
            if (length[set] >= 1000) {
                return NONE;
            }
            for (int step = 1; step <= 2; step++) {
                for (int x = 0; x <= all(); x++) {
                    for (int y = 0; y <= all(); y++) {
                        int got = step == 1 ? x & y : x | y;
                        if (got == set && length[x] + length[y] == length[set]) {
                            return new int[] {step, x, y}[what];
                        }
                    }
                }
            }
            throw new IllegalStateException("no way to make " + set);
        }

        int terms(int set, int i) {
            if (!isSet(set) || i < -1) {
                return BAD;
            }
            TreeSet<Integer> found = new TreeSet<>();
            int[] fixed = new int[counts.length];
            Arrays.fill(fixed, -1);
            fix(set, fixed, 0, found);
            if (i == -1) {
                return found.size();
            }
            return i < found.size() ? new ArrayList<>(found).get(i) : BAD;
        }

        private void fix(int set, int[] fixed, int c, TreeSet<Integer> found) {
            if (c < fixed.length) {
                for (int v = -1; v < counts[c]; v++) {
                    fixed[c] = v;
                    fix(set, fixed, c + 1, found);
                }
                fixed[c] = -1;
                return;
            }
            if ((worldsOf(fixed) & ~set) != 0) {
                return;
            }
            for (int d = 0; d < fixed.length; d++) {
                int[] freed = fixed.clone();
                freed[d] = -1;
                if (fixed[d] >= 0 && (worldsOf(freed) & ~set) == 0) {
                    return;
                }
            }
            found.add(worldsOf(fixed));
        }

        private int worldsOf(int[] fixed) {
            int set = 0;
            for (int w = 0; w < worlds.size(); w++) {
                boolean fits = true;
                for (int c = 0; c < fixed.length; c++) {
                    fits &= fixed[c] < 0 || fixed[c] == worlds.get(w)[c];
                }
                set |= fits ? 1 << w : 0;
            }
            return set;
        }

        int refusal(int set) {
            return isSet(set) ? lengthOf(all() - set) : BAD;
        }

        int worst(int what) {
            if (what < 0 || what > 1) {
                return BAD;
            }
            int sign = NONE;
            int longest = NONE;
            for (int c = 0; c < counts.length; c++) {
                for (int v = 0; v < counts[c]; v++) {
                    int n = lengthOf(all() - having(c, v));
                    if (n > longest) {
                        longest = n;
                        sign = 10 * c + v;
                    }
                }
            }
            return what == 0 ? sign : longest;
        }

        int saves(int what) {
            if (what < 0 || what > 1) {
                return BAD;
            }
            if (words.size() == 3) {
                return FULL;
            }
            int sign = NONE;
            int least = NONE;
            for (int c = 0; c < counts.length; c++) {
                for (int v = 0; v < counts[c]; v++) {
                    List<Integer> more = new ArrayList<>(words);
                    more.add(all() - having(c, v));
                    int sum = 0;
                    for (int d = 0; d < counts.length; d++) {
                        for (int u = 0; u < counts[d]; u++) {
                            sum += lengths(more)[all() - having(d, u)];
                        }
                    }
                    if (sign == NONE || sum < least) {
                        sign = 10 * c + v;
                        least = sum;
                    }
                }
            }
            return what == 0 ? sign : least;
        }

        // ---- contracts

        int contract(int without) {
            int set = all();
            for (int i = 0; i < left.size(); i++) {
                set &= i == without ? set : left.get(i);
            }
            return set;
        }

        int gap(int set) {
            return isSet(set) ? contract(-1) - (contract(-1) & set) : BAD;
        }

        int clause(int set, int what) {
            if (!isSet(set) || what < 0 || what > 1) {
                return BAD;
            }
            int agreed = contract(-1);
            for (int n = 1; n < 1000; n++) {
                for (int s = 0; s <= all(); s++) {
                    if (lengthOf(s) == n && (agreed & s) == (agreed & set)) {
                        return what == 0 ? s : n;
                    }
                }
            }
            return NONE;
        }

        int lost(int i) {
            return isSaying(i) ? Integer.bitCount(contract(i) ^ contract(-1)) : BAD;
        }

        // ---- two who see

        private boolean sameTo(int seen, int v, int w) {
            for (int c = 0; c < counts.length; c++) {
                if ((seen >> c) % 2 == 1 && worlds.get(v)[c] != worlds.get(w)[c]) {
                    return false;
                }
            }
            return true;
        }

        private boolean bad(int one, int other, int world) {
            return one < 0 || one > 7 || other < 0 || other > 7 || world < 0 || world >= worlds.size();
        }

        int common(int one, int other, int world) {
            if (bad(one, other, world)) {
                return BAD;
            }
            int agreed = contract(-1);
            if ((agreed >> world & 1) == 0) {
                return 0;
            }
            List<Integer> open = new ArrayList<>(List.of(world));
            int set = 1 << world;
            while (!open.isEmpty()) {
                int v = open.remove(0);
                for (int w = 0; w < worlds.size(); w++) {
                    boolean near = sameTo(one, v, w) || sameTo(other, v, w);
                    if (near && (agreed >> w & 1) == 1 && (set >> w & 1) == 0) {
                        set |= 1 << w;
                        open.add(w);
                    }
                }
            }
            return set;
        }

        private boolean knows(int seen, int world, int known) {
            for (int w = 0; w < worlds.size(); w++) {
                if (w != world && (known >> w & 1) == 1 && sameTo(seen, world, w)) {
                    return false;
                }
            }
            return true;
        }

        int talk(int one, int other, int world) {
            if (bad(one, other, world)) {
                return BAD;
            }
            if ((contract(-1) >> world & 1) == 0) {
                return STATE;
            }
            for (int turn = 1; turn <= 30; turn++) {
                if (knows(turn % 2 == 1 ? one : other, world, silence(one, other, turn - 1))) {
                    return turn;
                }
            }
            return NONE;
        }

        int silence(int one, int other, int k) {
            if (bad(one, other, 0) || k < 0 || k > 30) {
                return BAD;
            }
            if (k == 0) {
                return contract(-1);
            }
            int before = silence(one, other, k - 1);
            int after = before;
            for (int w = 0; w < worlds.size(); w++) {
                if ((before >> w & 1) == 1 && knows(k % 2 == 1 ? one : other, w, before)) {
                    after -= 1 << w;
                }
            }
            return after;
        }

        // ---- kinds, images

        int mark(int kind, int k) {
            if (kind < 0 || kind > 5 || !isSaying(k)) {
                return NO;
            }
            int[] tens = {1, 10, 100, 1000, 10000, 100000};
            int[] above = {-1, 0, 0, 2, 1, 0};
            trace += tens[kind];
            int up = kind == 0 ? many.get(k) : mark(above[kind], k);
            switch (kind) {
                case 1: return up + Integer.bitCount(left.get(k));
                case 2: return up * 2;
                case 3: return up + lost(k);
                case 4: return up - k;
                case 5: return up + Math.max(0, lengthOf(left.get(k)));
                default: return up;
            }
        }

        int keep(int image) {
            if (image != 0 && image != 1) {
                return BAD;
            }
            images.put(image, List.of(List.copyOf(left), List.copyOf(many), List.copyOf(words)));
            return left.size();
        }

        int back(int image) {
            if (image != 0 && image != 1) {
                return BAD;
            }
            List<List<Integer>> kept = images.get(image);
            if (kept == null) {
                return STATE;
            }
            left = new ArrayList<>(kept.get(0));
            many = new ArrayList<>(kept.get(1));
            words = new ArrayList<>(kept.get(2));
            return left.size();
        }

        int count(int what) {
            int[] counted = {counts.length, worlds.size(), left.size(), words.size(), text.length()};
            return what >= 0 && what < counted.length ? counted[what] : BAD;
        }
    }
}
