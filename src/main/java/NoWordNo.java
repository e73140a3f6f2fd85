/**
 * A tongue that has no word for no: worlds are told apart by what they are, and
 * nothing can be refused but by saying all else. The document's terms stand in
 * capitals in the comments; a SET of WORLDS is an int whose bits are the WORLDS.
 */
public final class NoWordNo {
    public static final int BAD = -1, STATE = -2, FULL = -3, NONE = -9;
    public static final int NO = -1000000;

    private static final int FAULT_BASE = -10;
    private static final int TURNS = 30;
    private static final int SEEN = 7;

    private final Text text;
    private final Tongue speech;
    private final Kept now;
    private final Kept image0;
    private final Kept image1;
    private final Signs signs;
    private final Reader reader;
    private final Lengths lengths;
    private final Refusals refusals;
    private final Two two;
    private boolean measured;
    private long traced;

    public NoWordNo() {
        text = new Text();
        speech = new Tongue();
        now = new Kept();
        image0 = new Kept();
        image1 = new Kept();
        signs = new Signs(speech, now);
        reader = new Reader(text, signs);
        lengths = new Lengths(signs);
        refusals = new Refusals(speech, new Lengths(signs));
        two = new Two(speech);
        measured = false;
        traced = 0L;
    }

    // ---- the tongue, sayings, words

    public int type(long v, int n) {
        if (n < 1 || n > 8) {
            return BAD;
        }
        return text.add(v, n) ? text.size() : FULL;
    }

    public int clear() {
        return text.drop();
    }

    public int tongue() {
        int fault = reader.faultOfTongue();
        if (fault != Reader.NO_FAULT) {
            return FAULT_BASE - fault;
        }
        speech.begin();
        for (int i = 0; i < reader.choicesRead(); i++) {
            speech.addChoice(reader.valuesRead(i));
        }
        speech.layOut();
        text.drop();
        now.forget();
        image0.forget();
        image1.forget();
        signsChanged();
        return speech.choices();
    }

    public int say() {
        if (now.sayings() >= Kept.MOST_SAYINGS) {
            return FULL;
        }
        int fault = reader.faultOfSaying();
        if (fault != Reader.NO_FAULT) {
            return FAULT_BASE - fault;
        }
        now.addSaying(reader.leftBySaying(), reader.signsRead());
        text.drop();
        return now.sayings();
    }

    public int unsay() {
        if (now.sayings() == 0) {
            return STATE;
        }
        now.dropSaying();
        return now.sayings();
    }

    public int word(int set) {
        if (!speech.isSet(set)) {
            return BAD;
        }
        if (now.words() >= Kept.MOST_WORDS) {
            return FULL;
        }
        now.addWord(set);
        signsChanged();
        return now.words();
    }

    public int unword() {
        int had = now.words();
        now.dropWords();
        signsChanged();
        return had;
    }

    public int value(int world, int choice) {
        if (!speech.isWorld(world) || !speech.isChoice(choice)) {
            return BAD;
        }
        return speech.valueIn(world, choice);
    }

    public int saying(int k, int what) {
        if (!now.isSaying(k) || what < 0 || what > 1) {
            return BAD;
        }
        return what == 0 ? now.leftBy(k) : now.signsOf(k);
    }

    public int alike(int k, int l) {
        if (!now.isSaying(k) || !now.isSaying(l)) {
            return BAD;
        }
        return now.leftBy(k) == now.leftBy(l) ? 1 : 0;
    }

    // ---- short sayings

    public int shortest(int set) {
        return speech.isSet(set) ? lengthsNow().of(set) : BAD;
    }

    public int made(int set, int what) {
        if (!speech.isSet(set) || what < 0 || what > 2) {
            return BAD;
        }
        int sign = signs.firstFor(set);
        if (sign != NONE) {
            return what == 1 ? sign : 0;
        }
        int both = lengthsNow().firstPair(set, true);
        if (both != NONE) {
            return pairPart(1, both, what);
        }
        int either = lengths.firstPair(set, false);
        return either == NONE ? NONE : pairPart(2, either, what);
    }

    public int terms(int set, int i) {
        if (!speech.isSet(set) || i < -1) {
            return BAD;
        }
        int many = 0;
        for (int t = 1; t <= speech.all(); t++) {
            if (speech.isTerm(t, set)) {
                if (many == i) {
                    return t;
                }
                many++;
            }
        }
        return i == -1 ? many : BAD;
    }

    public int refusal(int set) {
        return speech.isSet(set) ? lengthsNow().of(speech.others(set)) : BAD;
    }

    public int worst(int what) {
        if (what < 0 || what > 1) {
            return BAD;
        }
        if (speech.choices() == 0) {
            return NONE;
        }
        int sign = refusals.longestSign(lengthsNow());
        return what == 0 ? sign : refusals.lengthFor(sign, lengthsNow());
    }

    public int saves(int what) {
        if (what < 0 || what > 1) {
            return BAD;
        }
        if (now.words() >= Kept.MOST_WORDS) {
            return FULL;
        }
        if (speech.choices() == 0) {
            return NONE;
        }
        refusals.findBest();
        return what == 0 ? refusals.bestSign() : refusals.bestSum();
    }

    // ---- contracts

    public int contract() {
        return contractWithout(Kept.NO_SAYING);
    }

    public int gap(int set) {
        return speech.isSet(set) ? contract() & speech.others(set) : BAD;
    }

    public int clause(int set, int what) {
        if (!speech.isSet(set) || what < 0 || what > 1) {
            return BAD;
        }
        int best = shortestWithin(contract(), set);
        if (best == NONE) {
            return NONE;
        }
        return what == 0 ? best : lengthsNow().of(best);
    }

    public int lost(int i) {
        return now.isSaying(i) ? lostWithout(i) : BAD;
    }

    // ---- two who see

    public int common(int one, int other, int world) {
        if (!isSeen(one) || !isSeen(other) || !speech.isWorld(world)) {
            return BAD;
        }
        return two.inCommon(one, other, world, contract());
    }

    public int talk(int one, int other, int world) {
        if (!isSeen(one) || !isSeen(other) || !speech.isWorld(world)) {
            return BAD;
        }
        int left = contract();
        if (!Rows.has(left, world)) {
            return STATE;
        }
        for (int turn = 1; turn <= TURNS; turn++) {
            int seen = turn % 2 == 1 ? one : other;
            if (two.knows(seen, world, left)) {
                return turn;
            }
            left = two.unknownTo(seen, left);
        }
        return NONE;
    }

    public int silence(int one, int other, int k) {
        if (!isSeen(one) || !isSeen(other) || k < 0 || k > TURNS) {
            return BAD;
        }
        int left = contract();
        for (int turn = 1; turn <= k; turn++) {
            left = two.unknownTo(turn % 2 == 1 ? one : other, left);
        }
        return left;
    }

    // ---- kinds, images

    public int mark(int kind, int k) {
        if (!now.isSaying(k)) {
            return NO;
        }
        switch (kind) {
            case 0:
                return plainMark(k);
            case 1:
                return offerMark(k);
            case 2:
                return clauseMark(k);
            case 3:
                return vowMark(k);
            case 4:
                return questionMark(k);
            case 5:
                return shrugMark(k);
            default:
                return NO;
        }
    }

    public int keep(int image) {
        if (image < 0 || image > 1) {
            return BAD;
        }
        imageOf(image).copy(now);
        return now.sayings();
    }

    public int back(int image) {
        if (image < 0 || image > 1) {
            return BAD;
        }
        Kept kept = imageOf(image);
        if (!kept.isFilled()) {
            return STATE;
        }
        now.copy(kept);
        signsChanged();
        return now.sayings();
    }

    public int count(int what) {
        switch (what) {
            case 0:
                return speech.choices();
            case 1:
                return speech.worlds();
            case 2:
                return now.sayings();
            case 3:
                return now.words();
            case 4:
                return text.size();
            default:
                return BAD;
        }
    }

    public long trace() {
        return traced;
    }

    // ---- what the calls share

    /** Lengths are measured only when a call needs them, so whatever changes the SIGNS says so here. */
    private void signsChanged() {
        measured = false;
        refusals.forget();
    }

    private Lengths lengthsNow() {
        if (!measured) {
            lengths.measure(Lengths.NO_WORD);
            measured = true;
        }
        return lengths;
    }

    private Kept imageOf(int image) {
        return image == 0 ? image0 : image1;
    }

    private static boolean isSeen(int seen) {
        return seen >= 0 && seen <= SEEN;
    }

    private static int pairPart(int step, int pair, int what) {
        if (what == 0) {
            return step;
        }
        return what == 1 ? Lengths.firstOf(pair) : Lengths.secondOf(pair);
    }

    private int contractWithout(int left) {
        int set = speech.all();
        for (int i = 0; i < now.sayings(); i++) {
            if (i != left) {
                set &= now.leftBy(i);
            }
        }
        return set;
    }

    private int lostWithout(int i) {
        return Integer.bitCount(contractWithout(i)) - Integer.bitCount(contract());
    }

    /** SETS are looked at rising, so that of equally long ones the least stays. */
    private int shortestWithin(int agreed, int set) {
        Lengths known = lengthsNow();
        int best = NONE;
        int bestLength = 0;
        for (int s = 0; s <= speech.all(); s++) {
            int length = (s & agreed) == (set & agreed) ? known.of(s) : NONE;
            if (length != NONE && (best == NONE || length < bestLength)) {
                best = s;
                bestLength = length;
            }
        }
        return best;
    }

    private int plainMark(int k) {
        traced += 1;
        return now.signsOf(k);
    }

    private int offerMark(int k) {
        traced += 10;
        return plainMark(k) + Integer.bitCount(now.leftBy(k));
    }

    private int clauseMark(int k) {
        traced += 100;
        return plainMark(k) * 2;
    }

    private int vowMark(int k) {
        traced += 1000;
        return clauseMark(k) + lostWithout(k);
    }

    private int questionMark(int k) {
        traced += 10000;
        return offerMark(k) - k;
    }

    private int shrugMark(int k) {
        traced += 100000;
        return plainMark(k) + Math.max(0, lengthsNow().of(now.leftBy(k)));
    }

    /** Rows and SETS, looked at only where they have such a place. */
    private static final class Rows {
        static int at(int[] row, int i) {
            return i >= 0 && i < row.length ? row[i] : 0;
        }

        static void put(int[] row, int i, int number) {
            if (i >= 0 && i < row.length) {
                row[i] = number;
            }
        }

        static boolean has(int set, int world) {
            return world >= 0 && world < Tongue.MOST_WORLDS && (set & 1 << world) != 0;
        }
    }

    /** THE TEXT: what has been typed and not yet read. */
    private static final class Text {
        static final int ROOM = 200;

        private final int[] bytes = new int[ROOM];
        private int size = 0;

        boolean add(long v, int n) {
            if (size + n > ROOM) {
                return false;
            }
            for (int i = n - 1; i >= 0; i--) {
                Rows.put(bytes, size, (int) (v >>> 8 * i) & 255);
                size++;
            }
            return true;
        }

        int drop() {
            int had = size;
            size = 0;
            return had;
        }

        int size() {
            return size;
        }

        /** Behind the end stands a 0, which begins no TOKEN and goes on none. */
        int byteAt(int i) {
            return i < size ? Rows.at(bytes, i) : 0;
        }
    }

    /** THE TEXT cut into TOKENS, one at a time. */
    private static final class Tokens {
        static final int END = 0;
        static final int ODD = 1;
        static final int NAME = 2;
        static final int NUMBER = 3;
        static final int NO_NUMBER = -1;

        private static final int BLANK = 32;
        private static final int MOST_NUMBER = 99;
        private static final String CHOICE = "choice";

        private final Text text;
        private int next = 0;
        private int place = 0;
        private int kind = END;

        Tokens(Text text) {
            this.text = text;
        }

        void begin() {
            next = 0;
            place = 0;
            kind = END;
        }

        /** A mark such as ; is a kind of its own, by its byte. */
        void step() {
            while (next < text.size() && text.byteAt(next) == BLANK) {
                next++;
            }
            place = next;
            int b = text.byteAt(next);
            if (next >= text.size()) {
                kind = END;
            } else if (isLetter(b)) {
                kind = NAME;
                passLetters();
            } else if (isDigit(b)) {
                kind = NUMBER;
                passDigits();
            } else {
                kind = isMark(b) ? b : ODD;
                next++;
            }
        }

        int place() {
            return place;
        }

        boolean is(int what) {
            return kind == what;
        }

        boolean isChoice() {
            if (kind != NAME || next - place != CHOICE.length()) {
                return false;
            }
            for (int i = 0; i < CHOICE.length(); i++) {
                if (text.byteAt(place + i) != CHOICE.charAt(i)) {
                    return false;
                }
            }
            return true;
        }

        /** The byte of a NAME of one letter; 0 of all else. */
        int letter() {
            return kind == NAME && next - place == 1 ? text.byteAt(place) : 0;
        }

        /** NO_NUMBER also for a NUMBER that may stand nowhere. */
        int number() {
            int digits = next - place;
            if (kind != NUMBER || digits > 1 && text.byteAt(place) == '0') {
                return NO_NUMBER;
            }
            int number = 0;
            for (int i = place; i < next && number <= MOST_NUMBER; i++) {
                number = number * 10 + text.byteAt(i) - '0';
            }
            return number <= MOST_NUMBER ? number : NO_NUMBER;
        }

        private void passLetters() {
            while (next < text.size() && isLetter(text.byteAt(next))) {
                next++;
            }
        }

        private void passDigits() {
            while (next < text.size() && isDigit(text.byteAt(next))) {
                next++;
            }
        }

        private static boolean isLetter(int b) {
            return b >= 'a' && b <= 'z';
        }

        private static boolean isDigit(int b) {
            return b >= '0' && b <= '9';
        }

        private static boolean isMark(int b) {
            return b == ';' || b == '|' || b == '&' || b == '(' || b == ')';
        }
    }

    /** THE TONGUE as it was read last: CHOICES, their VALUES, and the WORLDS. */
    private static final class Tongue {
        static final int MOST_CHOICES = 3;
        static final int MOST_VALUES = 9;
        static final int MOST_WORLDS = 9;
        static final int NO_CHOICE = -1;
        static final int NO_VALUE = -1;

        private final int[] values = new int[MOST_CHOICES];
        /** What a VALUE of a CHOICE leaves, by 10 times the CHOICE and the VALUE. */
        private final int[] left = new int[10 * MOST_CHOICES];
        private int choices = 0;
        private int worlds = 1;

        void begin() {
            choices = 0;
            worlds = 1;
        }

        void addChoice(int many) {
            Rows.put(values, choices, many);
            choices++;
            worlds *= many;
        }

        void layOut() {
            int step = 1;
            for (int c = 0; c < choices; c++) {
                layOutChoice(c, step);
                step *= valuesOf(c);
            }
        }

        private void layOutChoice(int c, int step) {
            for (int v = 0; v < valuesOf(c); v++) {
                Rows.put(left, 10 * c + v, 0);
            }
            int value = 0;
            int behind = 0;
            for (int w = 0; w < worlds; w++) {
                int i = 10 * c + value;
                Rows.put(left, i, Rows.at(left, i) | 1 << w);
                behind++;
                if (behind == step) {
                    behind = 0;
                    value = value + 1 < valuesOf(c) ? value + 1 : 0;
                }
            }
        }

        int choices() {
            return choices;
        }

        int worlds() {
            return worlds;
        }

        int all() {
            return (1 << worlds) - 1;
        }

        int others(int set) {
            return all() & ~set;
        }

        boolean isSet(int set) {
            return set >= 0 && set <= all();
        }

        boolean isWorld(int world) {
            return world >= 0 && world < worlds;
        }

        boolean isChoice(int choice) {
            return choice >= 0 && choice < choices;
        }

        int valuesOf(int choice) {
            return isChoice(choice) ? Rows.at(values, choice) : 0;
        }

        int leftBy(int choice, int value) {
            return Rows.at(left, 10 * choice + value);
        }

        int valueIn(int world, int choice) {
            return fixedIn(1 << world, choice);
        }

        /** The VALUE of a CHOICE that all WORLDS of a SET have, or NO_VALUE. */
        private int fixedIn(int set, int choice) {
            for (int v = 0; v < valuesOf(choice); v++) {
                if ((set & ~leftBy(choice, v)) == 0) {
                    return v;
                }
            }
            return NO_VALUE;
        }

        /** What is left when all VALUES are fixed that the SET fixes, but for one CHOICE. */
        private int fixedLike(int set, int without) {
            int wide = all();
            for (int c = 0; c < choices; c++) {
                int v = c == without ? NO_VALUE : fixedIn(set, c);
                if (v != NO_VALUE) {
                    wide &= leftBy(c, v);
                }
            }
            return wide;
        }

        /** A TERM is known by its WORLDS, as every CHOICE has two VALUES at least. */
        boolean isTerm(int term, int set) {
            if (term == 0 || (term & ~set) != 0 || fixedLike(term, NO_CHOICE) != term) {
                return false;
            }
            for (int c = 0; c < choices; c++) {
                if (fixedIn(term, c) != NO_VALUE && (fixedLike(term, c) & ~set) == 0) {
                    return false;
                }
            }
            return true;
        }

        int looksLike(int seen, int world) {
            int same = all();
            for (int c = 0; c < choices; c++) {
                if ((seen & 1 << c) != 0) {
                    same &= leftBy(c, fixedIn(1 << world, c));
                }
            }
            return same;
        }
    }

    /** SAYINGS and WORDS, as they are now or as an IMAGE has them. */
    private static final class Kept {
        static final int MOST_SAYINGS = 8;
        static final int MOST_WORDS = 3;
        static final int NO_SAYING = -1;

        private final int[] left = new int[MOST_SAYINGS];
        private final int[] signs = new int[MOST_SAYINGS];
        private final int[] wordSets = new int[MOST_WORDS];
        private int sayings = 0;
        private int words = 0;
        private boolean filled = false;

        void forget() {
            sayings = 0;
            words = 0;
            filled = false;
        }

        void copy(Kept other) {
            for (int i = 0; i < MOST_SAYINGS; i++) {
                Rows.put(left, i, Rows.at(other.left, i));
                Rows.put(signs, i, Rows.at(other.signs, i));
            }
            for (int i = 0; i < MOST_WORDS; i++) {
                Rows.put(wordSets, i, Rows.at(other.wordSets, i));
            }
            sayings = other.sayings;
            words = other.words;
            filled = true;
        }

        boolean isFilled() {
            return filled;
        }

        int sayings() {
            return sayings;
        }

        boolean isSaying(int k) {
            return k >= 0 && k < sayings;
        }

        void addSaying(int set, int many) {
            Rows.put(left, sayings, set);
            Rows.put(signs, sayings, many);
            sayings++;
        }

        void dropSaying() {
            sayings--;
        }

        int leftBy(int k) {
            return Rows.at(left, k);
        }

        int signsOf(int k) {
            return Rows.at(signs, k);
        }

        int words() {
            return words;
        }

        void addWord(int set) {
            Rows.put(wordSets, words, set);
            words++;
        }

        void dropWords() {
            words = 0;
        }

        int wordSet(int i) {
            return Rows.at(wordSets, i);
        }
    }

    /** All SIGNS in their order: groups 0 to 2 are CHOICES, the last one is the WORDS. */
    private static final class Signs {
        static final int WORDS = 3;
        static final int NO_GROUP = -1;

        private final Tongue tongue;
        private final Kept kept;

        Signs(Tongue tongue, Kept kept) {
            this.tongue = tongue;
            this.kept = kept;
        }

        Tongue speech() {
            return tongue;
        }

        int many(int group) {
            return group == WORDS ? kept.words() : tongue.valuesOf(group);
        }

        int leftBy(int group, int number) {
            return group == WORDS ? kept.wordSet(number) : tongue.leftBy(group, number);
        }

        /** There may be no WORDS, but their letter is always one. */
        int groupOf(int letter) {
            if (letter == 'w') {
                return WORDS;
            }
            return tongue.isChoice(letter - 'a') ? letter - 'a' : NO_GROUP;
        }

        int firstFor(int set) {
            for (int g = 0; g <= WORDS; g++) {
                for (int i = 0; i < many(g); i++) {
                    if (leftBy(g, i) == set) {
                        return 10 * g + i;
                    }
                }
            }
            return NONE;
        }
    }

    /** Reads THE TEXT as a TONGUE or as a SAYING; what it read stands until the next reading. */
    private static final class Reader {
        static final int NO_FAULT = -1;

        private static final int DEEPEST = 9;

        private final Tokens tokens;
        private final Signs signs;
        private final int[] values = new int[Tongue.MOST_CHOICES];
        private int choices = 0;
        /** For each open ( the TERMS read so far, and the TERM that is being read. */
        private final int[] termsLeft = new int[DEEPEST + 1];
        private final int[] factorsLeft = new int[DEEPEST + 1];
        private int depth = 0;
        private int many = 0;
        private boolean factorDue = true;

        Reader(Text text, Signs signs) {
            this.tokens = new Tokens(text);
            this.signs = signs;
        }

        int choicesRead() {
            return choices;
        }

        int valuesRead(int choice) {
            return Rows.at(values, choice);
        }

        int leftBySaying() {
            return levelLeft();
        }

        int signsRead() {
            return many;
        }

        int faultOfTongue() {
            choices = 0;
            int worlds = 1;
            tokens.begin();
            for (int i = 0; i <= Tongue.MOST_CHOICES; i++) {
                tokens.step();
                if (tokens.is(Tokens.END)) {
                    return NO_FAULT;
                }
                if (!tokens.isChoice() || choices == Tongue.MOST_CHOICES) {
                    return tokens.place();
                }
                tokens.step();
                int n = tokens.number();
                if (n < 2 || n > Tongue.MOST_VALUES || worlds * n > Tongue.MOST_WORLDS) {
                    return tokens.place();
                }
                tokens.step();
                if (!tokens.is(';')) {
                    return tokens.place();
                }
                Rows.put(values, choices, n);
                choices++;
                worlds *= n;
            }
            return tokens.place();
        }

        int faultOfSaying() {
            tokens.begin();
            depth = 0;
            many = 0;
            openLevel();
            // every turn but the last one passes a byte of THE TEXT at least
            for (int i = 0; i <= Text.ROOM; i++) {
                tokens.step();
                if (tokens.is(Tokens.END) && !factorDue && depth == 0) {
                    return NO_FAULT;
                }
                boolean stands = factorDue ? readFactor() : readBehindFactor();
                if (!stands) {
                    return tokens.place();
                }
            }
            return tokens.place();
        }

        private boolean readFactor() {
            if (tokens.is('(')) {
                if (depth == DEEPEST) {
                    return false;
                }
                depth++;
                openLevel();
                return true;
            }
            int group = signs.groupOf(tokens.letter());
            if (group == Signs.NO_GROUP) {
                return false;
            }
            tokens.step();
            int number = tokens.number();
            if (number < 0 || number >= signs.many(group)) {
                return false;
            }
            addFactor(signs.leftBy(group, number));
            many++;
            return true;
        }

        private boolean readBehindFactor() {
            if (tokens.is('&')) {
                factorDue = true;
                return true;
            }
            if (tokens.is('|')) {
                Rows.put(termsLeft, depth, levelLeft());
                Rows.put(factorsLeft, depth, signs.speech().all());
                factorDue = true;
                return true;
            }
            if (tokens.is(')') && depth > 0) {
                int inner = levelLeft();
                depth--;
                addFactor(inner);
                return true;
            }
            return false;
        }

        private void openLevel() {
            Rows.put(termsLeft, depth, 0);
            Rows.put(factorsLeft, depth, signs.speech().all());
            factorDue = true;
        }

        private void addFactor(int set) {
            Rows.put(factorsLeft, depth, Rows.at(factorsLeft, depth) & set);
            factorDue = false;
        }

        private int levelLeft() {
            return Rows.at(termsLeft, depth) | Rows.at(factorsLeft, depth);
        }
    }

    /** SHORTEST for every SET, with a WORD more or without. */
    private static final class Lengths {
        /** No WORD more than there are. */
        static final int NO_WORD = -1;

        private static final int MOST_SETS = 1 << Tongue.MOST_WORLDS;
        /** Far above the longest that nine WORLDS can need. */
        private static final int LONGEST = 32;

        private final Signs signs;
        /** By SET; 0 where no SAYING is known. */
        private final int[] length = new int[MOST_SETS];
        /** The SETS that are known, the shortest first, and where those of a length begin. */
        private final int[] order = new int[MOST_SETS];
        private final int[] start = new int[LONGEST + 2];
        private int found = 0;

        Lengths(Signs signs) {
            this.signs = signs;
        }

        int of(int set) {
            int n = Rows.at(length, set);
            return n > 0 ? n : NONE;
        }

        void measure(int more) {
            int all = signs.speech().all();
            for (int s = 0; s <= all; s++) {
                Rows.put(length, s, 0);
            }
            found = 0;
            noteSigns(more);
            Rows.put(start, 1, 0);
            Rows.put(start, 2, found);
            for (int n = 2; n <= LONGEST && found <= all; n++) {
                for (int i = 1; i <= n - i; i++) {
                    join(i, n - i);
                }
                Rows.put(start, n + 1, found);
            }
        }

        /** A pair of SETS whose lengths add to that of this SET, first the first, then the second the least. */
        int firstPair(int set, boolean both) {
            int whole = of(set);
            int all = signs.speech().all();
            for (int x = 0; x <= all; x++) {
                int rest = canStep(x, set, both) ? whole - of(x) : 0;
                if (rest > 0) {
                    int y = firstPartner(x, rest, set, both);
                    if (y != NONE) {
                        return x * MOST_SETS + y;
                    }
                }
            }
            return NONE;
        }

        static int firstOf(int pair) {
            return pair / MOST_SETS;
        }

        static int secondOf(int pair) {
            return pair % MOST_SETS;
        }

        private int firstPartner(int x, int rest, int set, boolean both) {
            int all = signs.speech().all();
            for (int y = 0; y <= all; y++) {
                if ((both ? x & y : x | y) == set && of(y) == rest) {
                    return y;
                }
            }
            return NONE;
        }

        private boolean canStep(int x, int set, boolean both) {
            return (both ? x & set : x | set) == set && of(x) != NONE;
        }

        private void noteSigns(int more) {
            for (int g = 0; g <= Signs.WORDS; g++) {
                for (int i = 0; i < signs.many(g); i++) {
                    note(signs.leftBy(g, i), 1);
                }
            }
            if (more != NO_WORD) {
                note(more, 1);
            }
        }

        /** i is at most j; of SETS of one length each two meet once. */
        private void join(int i, int j) {
            int endX = Rows.at(start, i + 1);
            int endY = Rows.at(start, j + 1);
            for (int p = Rows.at(start, i); p < endX; p++) {
                int x = Rows.at(order, p);
                for (int q = i == j ? p + 1 : Rows.at(start, j); q < endY; q++) {
                    int y = Rows.at(order, q);
                    note(x & y, i + j);
                    note(x | y, i + j);
                }
            }
        }

        private void note(int set, int n) {
            if (Rows.at(length, set) == 0) {
                Rows.put(length, set, n);
                Rows.put(order, found, set);
                found++;
            }
        }
    }

    /** How long it is to refuse the SIGNS of CHOICES, and the WORD that would save most. */
    private static final class Refusals {
        private final Tongue tongue;
        private final Lengths tried;
        private int sign = 0;
        private int sum = 0;
        private boolean known = false;

        Refusals(Tongue tongue, Lengths tried) {
            this.tongue = tongue;
            this.tried = tried;
        }

        void forget() {
            known = false;
        }

        int lengthFor(int s, Lengths plain) {
            return plain.of(allBut(s));
        }

        int longestSign(Lengths plain) {
            int longest = 0;
            for (int s = 0; s < 10 * tongue.choices(); s++) {
                if (isSign(s) && lengthFor(s, plain) > lengthFor(longest, plain)) {
                    longest = s;
                }
            }
            return longest;
        }

        int bestSign() {
            return sign;
        }

        int bestSum() {
            return sum;
        }

        void findBest() {
            for (int s = 0; s < 10 * tongue.choices() && !known; s++) {
                if (isSign(s)) {
                    tried.measure(allBut(s));
                    int added = sumOfTried();
                    if (s == 0 || added < sum) {
                        sign = s;
                        sum = added;
                    }
                }
            }
            known = true;
        }

        private int sumOfTried() {
            int added = 0;
            for (int s = 0; s < 10 * tongue.choices(); s++) {
                if (isSign(s)) {
                    added += tried.of(allBut(s));
                }
            }
            return added;
        }

        private boolean isSign(int s) {
            return s % 10 < tongue.valuesOf(s / 10);
        }

        private int allBut(int s) {
            return tongue.others(tongue.leftBy(s / 10, s % 10));
        }
    }

    /** What two know who SEE some CHOICES each. */
    private static final class Two {
        private final Tongue tongue;

        Two(Tongue tongue) {
            this.tongue = tongue;
        }

        /** As many rounds as there are WORLDS are enough, each but the last adds one. */
        int inCommon(int one, int other, int world, int agreed) {
            int reached = agreed & 1 << world;
            for (int round = 0; round < tongue.worlds(); round++) {
                for (int w = 0; w < tongue.worlds(); w++) {
                    if (Rows.has(reached, w)) {
                        int near = tongue.looksLike(one, w) | tongue.looksLike(other, w);
                        reached |= agreed & near;
                    }
                }
            }
            return reached;
        }

        boolean knows(int seen, int world, int left) {
            return Integer.bitCount(left & tongue.looksLike(seen, world)) == 1;
        }

        int unknownTo(int seen, int left) {
            int unknown = 0;
            for (int w = 0; w < tongue.worlds(); w++) {
                if (Rows.has(left, w) && !knows(seen, w, left)) {
                    unknown |= 1 << w;
                }
            }
            return unknown;
        }
    }
}
