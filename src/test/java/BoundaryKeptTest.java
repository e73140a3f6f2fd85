import java.util.Arrays;

/** The edges that the document names of SAYINGS, WORDS, MARKS, THE TRACE, IMAGES, count, and what is refused first. */
public final class BoundaryKeptTest {
    private static final int BAD = Calls.BAD, STATE = Calls.STATE, FULL = Calls.FULL, NONE = Calls.NONE;
    private static final int NO = Calls.NO;
    private static final int LOWEST = Integer.MIN_VALUE, HIGHEST = Integer.MAX_VALUE;
    private static final int[] ADDED = {1, 11, 101, 1101, 10011, 100001};

    public static void main(String[] args) {
        sayingsAtMost();
        fullAheadOfFault();
        whichSaying();
        wordsAsTheyWere();
        unsay();
        wordsAtMost();
        whichWord();
        unword();
        alike();
        marks();
        markRefused();
        marksBelowNothing();
        shrugOfNone();
        traceOfAllCalls();
        traceStays();
        whichImage();
        imageNotKept();
        imageKeepsAllOfIt();
        imageKeepsNothingElse();
        imageOfNothing();
        imagesAreTwo();
        imageIsACopy();
        count();
        firstRefused();
        callsAtMost();
        Checks.end();
    }

    private static void sayingsAtMost() {
        Checks.says("SAYINGS 0 .. (8 at most); say: FULL");
        NoWordNo x = Calls.with("choice 2;");
        for (int k = 1; k <= 8; k++) {
            Checks.due("SAYING " + (k - 1), Calls.say(x, "a 0"), k);
            Checks.due("how many", x.count(2), k);
        }
        Checks.due("a ninth", Calls.say(x, "a 1"), FULL);
        Checks.due("how many", x.count(2), 8);
        Checks.due("THE TEXT stays", x.count(4), 3);
        Checks.due("again", x.say(), FULL);
        Checks.due("the last one", x.saying(7, 0), 1);
        Checks.due("one goes", x.unsay(), 7);
        Checks.due("the text that stayed", x.say(), 8);
        Checks.due("what it LEAVES", x.saying(7, 0), 2);
        Checks.due("THE TEXT", x.count(4), 0);
        Checks.due("a ninth", Calls.say(x, "a 1"), FULL);
    }

    private static void fullAheadOfFault() {
        Checks.says("say: FULL; -10 less FAULT");
        for (String text : new String[] {"", " ", "?", "a 2", "a 0"}) {
            NoWordNo x = Calls.with("choice 2;", "a 0", "a 0", "a 0", "a 0", "a 0", "a 0", "a 0", "a 0");
            Checks.due("'" + text + "'", Calls.say(x, text), FULL);
            Checks.due("THE TEXT stays", x.count(4), text.length());
        }
        NoWordNo x = Calls.with("choice 2;", "a 0", "a 0", "a 0", "a 0", "a 0", "a 0", "a 0");
        Checks.due("7 SAYINGS", Calls.say(x, "?"), -10);
    }

    private static void whichSaying() {
        Checks.says("saying, alike, lost: BAD (a SAYING that is none)");
        NoWordNo x = Calls.with("choice 9;");
        for (int n = 0; n <= 8; n++) {
            for (int k : new int[] {LOWEST, -2, -1, n, n + 1, 8, 9, 32, 256, HIGHEST}) {
                Checks.due("saying " + k + " of " + n, x.saying(k, 0), BAD);
                Checks.due("lost " + k + " of " + n, x.lost(k), BAD);
                Checks.due("mark " + k + " of " + n, x.mark(0, k), NO);
            }
            for (int k = 0; k < n; k++) {
                Checks.due("saying " + k + " of " + n, x.saying(k, 0), 1 << k);
            }
            Calls.say(x, "a " + n);
        }
    }

    private static void wordsAsTheyWere() {
        Checks.says("SAYINGS .. are kept, with what they LEAVE and how many SIGNS they have (WORDS as they were)");
        NoWordNo x = Calls.withWords("choice 3;", 5);
        Calls.say(x, "w 0|w 0");
        x.unword();
        Checks.due("without the WORD", x.saying(0, 0), 5);
        Checks.due("its SIGNS", x.saying(0, 1), 2);
        x.word(2);
        Checks.due("with another WORD", x.saying(0, 0), 5);
        Checks.due("one that is said now", Calls.say(x, "w 0"), 2);
        Checks.due("what it LEAVES", x.saying(1, 0), 2);
        Checks.due("THE CONTRACT", x.contract(), 0);
    }

    private static void unsay() {
        Checks.says("unsay: the last SAYING is taken back: how many there are. STATE: none");
        NoWordNo x = Calls.with("choice 9;");
        Checks.due("none", x.unsay(), STATE);
        for (int n = 1; n <= 8; n++) {
            for (int k = 0; k < n; k++) {
                Calls.say(x, "a " + k);
            }
            for (int k = n - 1; k >= 0; k--) {
                Checks.due("taken back", x.unsay(), k);
                Checks.due("gone", x.saying(k, 0), BAD);
                Checks.due("the one ahead stays", x.saying(k - 1, 0), k == 0 ? BAD : 1 << k - 1);
            }
            Checks.due("none", x.unsay(), STATE);
            Checks.due("none", x.count(2), 0);
        }
    }

    private static void wordsAtMost() {
        Checks.says("WORDS w 0 .. (3 at most): each is a SET");
        for (String tongue : new String[] {"", "choice 2;", "choice 9;"}) {
            NoWordNo x = Calls.with(tongue);
            int all = Calls.all(x);
            for (int n = 1; n <= 3; n++) {
                Checks.due("WORD " + n, x.word(n == 2 ? all : 0), n);
                Checks.due("how many", x.count(3), n);
            }
            Checks.due("a fourth", x.word(0), FULL);
            Checks.due("a fourth", x.word(all), FULL);
            Checks.due("no SET, ahead of FULL", x.word(all + 1), BAD);
            Checks.due("no SET, ahead of FULL", x.word(-1), BAD);
            Checks.due("how many", x.count(3), 3);
            Checks.due("all go", x.unword(), 3);
            Checks.due("one again", x.word(all), 1);
        }
    }

    private static void whichWord() {
        Checks.says("w and the number of a WORD (w 0); FAULT: .. a WORD that is none");
        int[] sets = {1, 2, 5};
        for (int n = 0; n <= 3; n++) {
            int[] some = Arrays.copyOf(sets, n);
            for (int i = 0; i <= 12; i++) {
                Checks.sayLeaves(() -> Calls.withWords("choice 3;", some), "w " + i, i < n ? sets[i] : -12);
            }
            Checks.sayLeaves(() -> Calls.withWords("choice 3;", some), "w", -11);
            Checks.sayLeaves(() -> Calls.withWords("choice 3;", some), "w |", -12);
        }
    }

    private static void unword() {
        Checks.says("unword: no WORDS: how many there were");
        for (int n = 0; n <= 3; n++) {
            NoWordNo x = Calls.with("choice 3;");
            for (int i = 0; i < n; i++) {
                x.word(6);
            }
            Checks.due("SHORTEST by them", x.shortest(6), n > 0 ? 1 : 2);
            Checks.due("there were", x.unword(), n);
            Checks.due("there are", x.count(3), 0);
            Checks.due("again", x.unword(), 0);
            Checks.due("SHORTEST without", x.shortest(6), 2);
        }
    }

    private static void alike() {
        Checks.says("alike: whether two SAYINGS LEAVE the same: 1, 0. BAD");
        NoWordNo x = Calls.with("choice 3;", "a 0|a 1", "a 1|a 0|a 0", "a 2", "a 0&a 1", "a 1&a 2");
        for (int k = 0; k < 5; k++) {
            for (int l = 0; l < 5; l++) {
                int want = k == l || k + l == 1 && k != l || k + l == 7 && k > 2 && l > 2 ? 1 : 0;
                Checks.due("alike " + k + ", " + l, x.alike(k, l), want);
            }
            for (int none : new int[] {LOWEST, -1, 5, 6, 8, HIGHEST}) {
                Checks.due("alike " + k + ", " + none, x.alike(k, none), BAD);
                Checks.due("alike " + none + ", " + k, x.alike(none, k), BAD);
                Checks.due("alike " + none + ", " + none, x.alike(none, none), BAD);
            }
        }
    }

    private static void marks() {
        Checks.says("KINDS: 0 SAYING; 1 OFFER, 2 CLAUSE, 5 SHRUG; 3 VOW (under CLAUSE); 4 QUESTION (under OFFER)");
        NoWordNo x = Calls.with("choice 9;", "a 0|a 1|a 2|a 2", "a 0|a 1|a 3");
        // SIGNS 4 and 3; each LEAVES 3, and is LOST by 1; SHORTEST is 3
        int[] first = {4, 7, 8, 9, 7, 7};
        int[] second = {3, 6, 6, 7, 5, 6};
        long trace = 0;
        for (int kind = 0; kind <= 5; kind++) {
            Checks.due("kind " + kind + " of 0", x.mark(kind, 0), first[kind]);
            trace += ADDED[kind];
            Checks.due("THE TRACE, kind " + kind, x.trace(), trace);
            Checks.due("kind " + kind + " of 1", x.mark(kind, 1), second[kind]);
            trace += ADDED[kind];
            Checks.due("THE TRACE, kind " + kind, x.trace(), trace);
        }
        NoWordNo y = Calls.with("choice 9;", "a 0");
        Checks.due("a VOW alone loses all else", y.mark(3, 0), 2 + 8);
    }

    private static void markRefused() {
        Checks.says("mark: NO: BAD");
        NoWordNo x = Calls.with("choice 2;", "a 0");
        for (int kind : new int[] {LOWEST, -2, -1, 6, 7, 8, 256, 65536, HIGHEST}) {
            Checks.due("kind " + kind, x.mark(kind, 0), NO);
            Checks.due("kind " + kind + " of none", x.mark(kind, 1), NO);
        }
        for (int kind = 0; kind <= 5; kind++) {
            for (int k : new int[] {LOWEST, -2, -1, 1, 2, 7, 8, HIGHEST}) {
                Checks.due("kind " + kind + " of " + k, x.mark(kind, k), NO);
            }
        }
        Checks.due("THE TRACE", x.trace(), 0);
        Checks.due("one that is let in", x.mark(0, 0), 1);
        Checks.due("THE TRACE", x.trace(), 1);
        Checks.due("none without SAYINGS", new NoWordNo().mark(0, 0), NO);
    }

    private static void marksBelowNothing() {
        Checks.says("NO: what none is, where a number may be below 0; QUESTION up less its number");
        NoWordNo x = Calls.withWords("choice 2;", 0);
        for (int k = 0; k < 8; k++) {
            Calls.say(x, "w 0");
            Checks.due("the QUESTION " + k, x.mark(4, k), 1 - k);
        }
    }

    private static void shrugOfNone() {
        Checks.says("SHRUG up, and SHORTEST for what it LEAVES (none: 0)");
        NoWordNo x = new NoWordNo();
        x.word(1);
        Calls.say(x, "w 0|w 0|w 0");
        Checks.due("by the WORD", x.mark(5, 0), 4);
        x.unword();
        Checks.due("by none", x.mark(5, 0), 3);
        Checks.due("both came to THE TRACE", x.trace(), 200002);
    }

    private static void traceOfAllCalls() {
        Checks.says("THE TRACE (0 at first; of all calls ever, together)");
        NoWordNo x = Calls.with("choice 2;", "a 0");
        long trace = 0;
        Checks.due("at first", x.trace(), 0);
        for (int i = 0; i < 300; i++) {
            x.mark(i % 6, 0);
            trace += ADDED[i % 6];
        }
        Checks.due("of 300", x.trace(), trace);
        Checks.says("THE TRACE (.. as often as mark() asks that body)");
        x.lost(0);
        x.shortest(1);
        x.refusal(1);
        x.saying(0, 1);
        Checks.due("other calls ask none", x.trace(), trace);
    }

    private static void traceStays() {
        Checks.says("IMAGES .. nothing else; THE TRACE stays");
        NoWordNo x = Calls.with("choice 2;", "a 0");
        x.mark(3, 0);
        x.keep(0);
        x.mark(3, 0);
        x.back(0);
        Checks.due("an IMAGE does not have it", x.trace(), 2202);
        x.unsay();
        x.unword();
        x.clear();
        Checks.due("it stays", x.trace(), 2202);
        Calls.tongue(x, "choice 3;");
        Checks.due("a TONGUE leaves it", x.trace(), 2202);
    }

    private static void whichImage() {
        Checks.says("IMAGES 0, 1; keep, back: BAD");
        NoWordNo x = Calls.with("choice 2;", "a 0");
        x.keep(0);
        x.keep(1);
        for (int image : new int[] {LOWEST, -2, -1, 2, 3, 256, 65536, HIGHEST}) {
            Checks.due("keep " + image, x.keep(image), BAD);
            Checks.due("back " + image, x.back(image), BAD);
        }
        Checks.due("keep 0", x.keep(0), 1);
        Checks.due("keep 1", x.keep(1), 1);
        Checks.due("back 0", x.back(0), 1);
        Checks.due("back 1", x.back(1), 1);
    }

    private static void imageNotKept() {
        Checks.says("back: BAD; STATE: none was kept");
        NoWordNo x = Calls.with("choice 2;", "a 0");
        Checks.due("0", x.back(0), STATE);
        Checks.due("1", x.back(1), STATE);
        Checks.due("BAD is first", x.back(2), BAD);
        Checks.due("BAD is first", x.back(-1), BAD);
        x.keep(1);
        Checks.due("0 still", x.back(0), STATE);
        Checks.due("1", x.back(1), 1);
        Checks.due("1 again", x.back(1), 1);
        Checks.due("SAYINGS", x.count(2), 1);
    }

    private static void imageKeepsAllOfIt() {
        Checks.says("IMAGES 0, 1 keep SAYINGS and WORDS; back: all of that becomes as an IMAGE has it");
        for (int sayings = 0; sayings <= 8; sayings += 4) {
            for (int words = 0; words <= 3; words++) {
                NoWordNo x = Calls.with("choice 9;");
                for (int i = 0; i < words; i++) {
                    x.word(7 << i);
                }
                for (int k = 0; k < sayings; k++) {
                    Calls.say(x, k < words ? "w " + k + "|w 0" : "a " + k);
                }
                Checks.due("how many", x.keep(1), sayings);
                x.unword();
                for (int k = sayings; k > 0; k--) {
                    x.unsay();
                }
                x.word(0);
                x.word(511);
                Calls.say(x, "a 8&a 8&a 8");
                Checks.due("how many", x.back(1), sayings);
                Checks.due("SAYINGS", x.count(2), sayings);
                Checks.due("WORDS", x.count(3), words);
                for (int k = 0; k < sayings; k++) {
                    Checks.due("LEFT", x.saying(k, 0), k < words ? 7 << k | 7 : 1 << k);
                    Checks.due("SIGNS", x.saying(k, 1), k < words ? 2 : 1);
                }
                for (int i = 0; i < words; i++) {
                    Checks.due("a WORD", x.shortest(7 << i), 1);
                    Checks.due("its number", x.made(7 << i, 1), 30 + i);
                }
                Checks.due("the later WORD is gone", x.shortest(511) > 1 ? 1 : 0, 1);
                Checks.due("the later empty WORD, too", x.shortest(0), 2);
            }
        }
    }

    private static void imageKeepsNothingElse() {
        Checks.says("IMAGES 0, 1 keep SAYINGS and WORDS; nothing else");
        NoWordNo x = Calls.with("choice 3;", "a 0");
        x.keep(0);
        Calls.type(x, "a 1");
        x.mark(0, 0);
        Checks.due("back", x.back(0), 1);
        Checks.due("THE TEXT stays", x.count(4), 3);
        Checks.due("as it was", x.say(), 2);
        Checks.due("what it LEAVES", x.saying(1, 0), 2);
        Checks.due("THE TRACE stays", x.trace(), 1);
        Checks.due("CHOICES", x.count(0), 1);
        Checks.due("WORLDS", x.count(1), 3);
        Checks.due("keep leaves THE TEXT", Calls.type(x, "a 2"), 3);
        x.keep(1);
        Checks.due("as it was", x.say(), 3);
    }

    private static void imageOfNothing() {
        Checks.says("an IMAGE without SAYINGS and WORDS");
        NoWordNo x = new NoWordNo();
        Checks.due("keep", x.keep(0), 0);
        x.word(1);
        Calls.say(x, "w 0");
        Checks.due("by the WORD", x.shortest(1), 1);
        Checks.due("back", x.back(0), 0);
        Checks.due("SAYINGS", x.count(2), 0);
        Checks.due("WORDS", x.count(3), 0);
        Checks.due("without the WORD", x.shortest(1), NONE);
        Checks.due("the CONTRACT", x.contract(), 1);
        Checks.due("the other one", x.back(1), STATE);
    }

    private static void imagesAreTwo() {
        Checks.says("IMAGES 0, 1");
        NoWordNo x = Calls.with("choice 3;", "a 0");
        x.keep(0);
        Calls.say(x, "a 1");
        x.word(6);
        x.keep(1);
        Checks.due("back 0", x.back(0), 1);
        Checks.due("its WORDS", x.count(3), 0);
        Checks.due("without the WORD", x.shortest(6), 2);
        Checks.due("back 1", x.back(1), 2);
        Checks.due("its WORDS", x.count(3), 1);
        Checks.due("with the WORD", x.shortest(6), 1);
        Checks.due("with the WORD", x.worst(0), 1);
        Checks.due("back 0", x.back(0), 1);
        Checks.due("without the WORD", x.worst(0), 0);
        Checks.due("kept anew", x.keep(1), 1);
        Checks.due("back 1", x.back(1), 1);
        Checks.due("its WORDS", x.count(3), 0);
    }

    private static void imageIsACopy() {
        Checks.says("an IMAGE is kept");
        NoWordNo x = Calls.withWords("choice 3;", 6);
        Calls.say(x, "a 0");
        x.keep(0);
        for (int i = 0; i < 2; i++) {
            x.unsay();
            Calls.say(x, "a 1|a 1");
            x.unword();
            x.word(5);
            Checks.due("another WORD", x.shortest(6), 2);
            Checks.due("back", x.back(0), 1);
            Checks.due("SAYING 0", x.saying(0, 0), 1);
            Checks.due("its SIGNS", x.saying(0, 1), 1);
            Checks.due("the WORD", x.shortest(6), 1);
            Checks.due("not the other", x.shortest(5), 2);
        }
    }

    private static void count() {
        Checks.says("count: 0 CHOICES, 1 WORLDS, 2 SAYINGS, 3 WORDS, 4 bytes of THE TEXT. BAD");
        NoWordNo x = Calls.withWords("choice 2;choice 3;", 1, 2, 3);
        Calls.say(x, "a 0");
        Calls.type(x, "abcd");
        int[] counts = {2, 6, 1, 3, 4};
        for (int what = 0; what < counts.length; what++) {
            Checks.due("count " + what, x.count(what), counts[what]);
        }
        for (int what : new int[] {LOWEST, -5, -2, -1, 5, 6, 9, 256, 65536, HIGHEST}) {
            Checks.due("count " + what, x.count(what), BAD);
        }
    }

    private static void firstRefused() {
        Checks.says("Refused, and nothing changes, the first of these: BAD, STATE, FULL");
        NoWordNo x = Calls.withWords("choice 2;", 0, 1, 2);
        Calls.say(x, "a 0");
        Calls.type(x, Calls.blanks(200));
        Checks.due("word: FULL", x.word(3), FULL);
        Checks.due("word: BAD ahead", x.word(4), BAD);
        Checks.due("saves: FULL", x.saves(1), FULL);
        Checks.due("saves: BAD ahead", x.saves(2), BAD);
        Checks.due("type: FULL", x.type(0, 8), FULL);
        Checks.due("type: BAD ahead", x.type(0, 9), BAD);
        Checks.due("back: STATE", x.back(1), STATE);
        Checks.due("back: BAD ahead", x.back(2), BAD);
        Checks.due("talk: STATE", x.talk(7, 7, 1), STATE);
        Checks.due("talk: BAD ahead", x.talk(7, 8, 1), BAD);
    }

    private static void callsAtMost() {
        Checks.says("An object is used for at most 512 calls after it has been made");
        NoWordNo x = new NoWordNo();
        x.type(0x63686f6963652039L, 8);
        x.type(';', 1);
        x.tongue();
        for (int call = 3; call < 511; call++) {
            if (call % 2 == 0) {
                Checks.due("call " + call, x.saves(1), 65);
            } else {
                Checks.due("call " + call, call % 4 == 3 ? x.word(0) : x.unword(), 1);
            }
        }
        Checks.due("the last call", x.shortest(511), 9);
    }
}
