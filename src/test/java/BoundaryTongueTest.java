import java.util.List;
import java.util.function.Supplier;

/** The edges that the document names of CHOICES, VALUES, WORLDS and ITEMS, and of a TONGUE read anew. */
public final class BoundaryTongueTest {
    private static final int BAD = Calls.BAD, STATE = Calls.STATE, NONE = Calls.NONE, NO = Calls.NO;
    private static final int LOWEST = Integer.MIN_VALUE, HIGHEST = Integer.MAX_VALUE;
    private static final int[][] TONGUES = {
        {2}, {3}, {4}, {5}, {6}, {7}, {8}, {9}, {2, 2}, {2, 3}, {3, 2}, {3, 3}, {2, 4}, {4, 2}, {2, 2, 2},
    };

    public static void main(String[] args) {
        newObject();
        choicesAtMost();
        fourthChoice();
        letters();
        valuesAtMost();
        worldsAtMost();
        numberOfAWorld();
        valueRefused();
        withoutChoices();
        items();
        choiceByItsLetters();
        noItems();
        readAnew();
        oneBehindAnother();
        notReadAnew();
        Checks.end();
    }

    private static void newObject() {
        Checks.says("A new object: as told; no CHOICES, no SAYINGS, no WORDS");
        NoWordNo x = new NoWordNo();
        Checks.due("CHOICES", x.count(0), 0);
        Checks.due("WORLDS", x.count(1), 1);
        Checks.due("SAYINGS", x.count(2), 0);
        Checks.due("WORDS", x.count(3), 0);
        Checks.due("bytes", x.count(4), 0);
        Checks.due("THE TRACE", x.trace(), 0);
        Checks.due("IMAGE 0", x.back(0), STATE);
        Checks.due("IMAGE 1", x.back(1), STATE);
        Checks.due("nothing to take back", x.unsay(), STATE);
        Checks.due("nothing to clear", x.clear(), 0);
        Checks.due("no WORDS to drop", x.unword(), 0);
        Checks.says("The constants");
        Checks.due("BAD", NoWordNo.BAD, -1);
        Checks.due("STATE", NoWordNo.STATE, -2);
        Checks.due("FULL", NoWordNo.FULL, -3);
        Checks.due("NONE", NoWordNo.NONE, -9);
        Checks.due("NO", NoWordNo.NO, -1000000);
    }

    private static void choicesAtMost() {
        Checks.says("CHOICES 0 .. (3 at most)");
        for (int n = 0; n <= 3; n++) {
            Checks.tongueIs("choice 2;".repeat(n), n);
        }
        for (int n = 4; n <= 22; n++) {
            Checks.tongueIs("choice 2;".repeat(n), -37);
        }
    }

    private static void fourthChoice() {
        Checks.says("FAULT: .. a fourth choice");
        String three = "choice 2;choice 2;choice 2;";
        Checks.tongueIs(three + "choice", -37);
        Checks.tongueIs(three + "   choice 2;", -40);
        Checks.tongueIs(three + "choice 99;", -37);
        Checks.tongueIs(three + "x", -37);
        Checks.tongueIs(three + "   ", 3);
        Checks.says("FAULT: the place of the first byte of the first TOKEN that can't stand there");
        Checks.tongueIs("choice 2;choice 5;choice 2;choice 2;", -26);
    }

    private static void letters() {
        Checks.says("letters a, b, c; a letter without a CHOICE");
        int[] leftBy0 = {0b01010101, 0b00110011, 0b00001111};
        for (int n = 0; n <= 3; n++) {
            String tongue = "choice 2;".repeat(n);
            int all = Calls.all(Calls.with(tongue));
            for (char c = 'a'; c <= 'z'; c++) {
                int i = c - 'a';
                int refused = c == 'w' ? -12 : -10;
                Checks.sayLeaves(() -> Calls.with(tongue), c + " 0", i < n ? leftBy0[i] & all : refused);
            }
        }
    }

    private static void valuesAtMost() {
        Checks.says("VALUES 0 .. (2 to 9 of them)");
        for (int n = 0; n <= 130; n++) {
            Checks.tongueIs("choice " + n + ";", n >= 2 && n <= 9 ? 1 : -17);
        }
        Checks.says("VALUES 0 ..; a VALUE .. that is none");
        for (int n = 2; n <= 9; n++) {
            String tongue = Calls.tongueOf(n);
            for (int v = 0; v <= 12; v++) {
                Checks.sayLeaves(() -> Calls.with(tongue), "a " + v, v < n ? 1 << v : -12);
            }
        }
        for (int[] values : TONGUES) {
            NoWordNo x = Calls.with(Calls.tongueOf(values));
            for (int c = 0; c < values.length; c++) {
                String last = (char) ('a' + c) + " ";
                Checks.due(last + "the last VALUE", Calls.say(x, last + (values[c] - 1)), c + 1);
                Checks.due(last + "none", Calls.say(x, last + values[c]), -12);
                x.clear();
            }
        }
    }

    private static void worldsAtMost() {
        Checks.says("WORLDS are all ways to choose, 9 at most; a NUMBER by which there are more than 9 WORLDS");
        for (int a = 1; a <= 10; a++) {
            for (int b = 1; b <= 10; b++) {
                worldsOf(a, b);
                for (int c = 1; c <= 10; c++) {
                    worldsOf(a, b, c);
                }
            }
        }
    }

    private static void worldsOf(int... values) {
        String text = "";
        int worlds = 1;
        int want = values.length;
        for (int n : values) {
            worlds *= n;
            if (want > 0 && (n < 2 || worlds > 9)) {
                want = -10 - (text.length() + "choice ".length());
            }
            text += "choice " + n + ";";
        }
        NoWordNo x = new NoWordNo();
        Checks.due("tongue of '" + text + "'", Calls.tongue(x, text), want);
        Checks.due("WORLDS of '" + text + "'", x.count(1), want > 0 ? worlds : 1);
    }

    private static void numberOfAWorld() {
        Checks.says("the number of a WORLD is that of its VALUE of CHOICE 0, and times how many VALUES that has ..");
        for (int[] values : TONGUES) {
            NoWordNo x = Calls.with(Calls.tongueOf(values));
            for (int w = 0; w < x.count(1); w++) {
                int number = 0;
                int times = 1;
                for (int c = 0; c < values.length; c++) {
                    number += times * x.value(w, c);
                    times *= values[c];
                    Checks.due("a VALUE there is", x.value(w, c) >= 0 && x.value(w, c) < values[c] ? 1 : 0, 1);
                }
                Checks.due(Calls.tongueOf(values) + " the number", number, w);
            }
        }
    }

    private static void valueRefused() {
        Checks.says("value: BAD");
        for (int[] values : TONGUES) {
            NoWordNo x = Calls.with(Calls.tongueOf(values));
            int worlds = x.count(1);
            int choices = values.length;
            for (int[] pair : new int[][] {
                {-1, 0}, {worlds, 0}, {0, -1}, {0, choices}, {worlds - 1, choices}, {worlds, choices - 1},
                {LOWEST, 0}, {HIGHEST, 0}, {0, LOWEST}, {0, HIGHEST}, {32, 0}, {0, 32},
            }) {
                String call = Calls.tongueOf(values) + " value(" + pair[0] + ", " + pair[1] + ")";
                Checks.due(call, x.value(pair[0], pair[1]), BAD);
            }
            Checks.due("the last WORLD", x.value(worlds - 1, choices - 1), values[choices - 1] - 1);
            Checks.due("WORLD 0", x.value(0, 0), 0);
        }
    }

    private static void withoutChoices() {
        Checks.says("WORLDS .. (without CHOICES: 1)");
        List<Supplier<NoWordNo>> makers = List.of(NoWordNo::new, () -> Calls.with(""), () -> Calls.with("  "));
        for (Supplier<NoWordNo> maker : makers) {
            NoWordNo x = maker.get();
            Checks.due("WORLDS", x.count(1), 1);
            Checks.due("no CHOICE has a VALUE", x.value(0, 0), BAD);
            Checks.due("THE CONTRACT", x.contract(), 1);
            Checks.due("WORLD 0", x.common(7, 7, 0), 1);
            Checks.due("WORLD 1", x.common(7, 7, 1), BAD);
            Checks.due("SET 0", x.gap(0), 1);
            Checks.due("SET 1", x.gap(1), 0);
            Checks.due("SET 2", x.gap(2), BAD);
            Checks.due("SHORTEST", x.shortest(1), NONE);
            Checks.due("REFUSAL", x.refusal(1), NONE);
            Checks.due("MADE", x.made(1, 0), NONE);
            Checks.due("a TERM that fixes no VALUE", x.terms(1, 0), 1);
            Checks.due("one TERM", x.terms(1, -1), 1);
            Checks.due("no TERM", x.terms(0, -1), 0);
            Checks.due("CLAUSE", x.clause(1, 0), NONE);
            Checks.due("TALK", x.talk(0, 0, 0), 1);
            Checks.due("SILENCE", x.silence(0, 0, 0), 1);
            Checks.due("SILENCE", x.silence(0, 0, 1), 0);
            Checks.sayLeaves(maker, "a 0", -10);
            Checks.sayLeaves(maker, "w 0", -12);
            Checks.due("a WORD", x.word(1), 1);
            Checks.due("by the WORD", x.shortest(1), 1);
            Checks.due("a SAYING by the WORD", Calls.say(x, "w 0"), 1);
            Checks.due("what it LEAVES", x.saying(0, 0), 1);
        }
    }

    private static void items() {
        Checks.says("ITEMS choice N ;");
        Checks.tongueIs("choice 2;", 1);
        Checks.tongueIs("2;", -10);
        Checks.tongueIs(";", -10);
        Checks.tongueIs("choice;", -16);
        Checks.tongueIs("choice choice 2;", -17);
        Checks.tongueIs("choice 2 choice 2;", -19);
        Checks.tongueIs("choice 2 2;", -19);
        Checks.tongueIs("choice 2;;", -19);
        Checks.tongueIs("choice 2;2;", -19);
        Checks.tongueIs("choice 2;a", -19);
        Checks.tongueIs("choice a;", -17);
        Checks.tongueIs("choice w;", -17);
        for (String mark : new String[] {"|", "&", "(", ")"}) {
            Checks.tongueIs(mark, -10);
            Checks.tongueIs("choice " + mark, -17);
            Checks.tongueIs("choice 2" + mark, -18);
            Checks.tongueIs("choice 2;" + mark, -19);
        }
    }

    private static void choiceByItsLetters() {
        Checks.says("ITEMS choice N ; .. TOKENS are words of letters a .. z");
        for (int i = 0; i < 6; i++) {
            for (char c = 'a'; c <= 'z'; c++) {
                String word = "choice".substring(0, i) + c + "choice".substring(i + 1);
                Checks.tongueIs(word + " 2;", word.equals("choice") ? 1 : -10);
            }
        }
        Checks.tongueIs("choic 2;", -10);
        Checks.tongueIs("choices 2;", -10);
        Checks.tongueIs("achoice 2;", -10);
        Checks.tongueIs("Choice 2;", -10);
        Checks.tongueIs("cho ice 2;", -10);
    }

    private static void noItems() {
        Checks.says("tongue: how many ITEMS (no such end is named for a TONGUE without any)");
        for (int n = 0; n <= Calls.MOST_BYTES; n++) {
            NoWordNo x = Calls.with("choice 3;");
            Checks.due(n + " blanks", Calls.tongue(x, Calls.blanks(n)), 0);
            Checks.due("no CHOICES", x.count(0), 0);
            Checks.due("one WORLD", x.count(1), 1);
            Checks.due("THE TEXT", x.count(4), 0);
        }
    }

    private static void readAnew() {
        Checks.says("A TONGUE read anew: no SAYINGS, no WORDS, IMAGES are gone; THE TRACE stays");
        // the same TONGUE again is one read anew, too
        String[] texts = {"", "choice 2;", "choice 2;choice 2;", "choice 9;"};
        int[] items = {0, 1, 2, 1};
        int[] shortestOfAll = {NONE, 2, 2, 9};
        for (int i = 0; i < texts.length; i++) {
            NoWordNo x = kept();
            Checks.due("the TONGUE", Calls.tongue(x, texts[i]), items[i]);
            Checks.due("no SAYINGS", x.count(2), 0);
            Checks.due("no SAYING 0", x.saying(0, 0), BAD);
            Checks.due("not alike", x.alike(0, 0), BAD);
            Checks.due("nothing LOST", x.lost(0), BAD);
            Checks.due("no MARK", x.mark(0, 0), NO);
            Checks.due("none to take back", x.unsay(), STATE);
            Checks.due("no WORDS", x.count(3), 0);
            Checks.due("no IMAGE 0", x.back(0), STATE);
            Checks.due("no IMAGE 1", x.back(1), STATE);
            Checks.due("THE TRACE", x.trace(), 100001);
            Checks.due("THE TEXT is empty", x.count(4), 0);
            Checks.due("all WORLDS are left", x.contract(), Calls.all(x));
            Checks.due("no WORD 0", Calls.say(x, "w 0"), -12);
            Checks.due("SHORTEST of all", x.shortest(Calls.all(x)), shortestOfAll[i]);
            Checks.due("an IMAGE anew", x.keep(1), 0);
            Checks.due("that IMAGE", x.back(1), 0);
            Checks.due("not the other one", x.back(0), STATE);
        }
    }

    private static void oneBehindAnother() {
        Checks.says("THE TEXT becomes THE TONGUE (nothing is left of the last one)");
        for (int[] first : TONGUES) {
            for (int[] second : TONGUES) {
                NoWordNo x = Calls.with(Calls.tongueOf(first));
                NoWordNo alone = Calls.with(Calls.tongueOf(second));
                x.shortest(0);
                Checks.due("the ITEMS", Calls.tongue(x, Calls.tongueOf(second)), second.length);
                Checks.due("the WORLDS", x.count(1), alone.count(1));
                for (int w = 0; w <= 9; w++) {
                    for (int c = 0; c <= 3; c++) {
                        Checks.due("value(" + w + ", " + c + ")", x.value(w, c), alone.value(w, c));
                    }
                }
                for (int set = 0; set <= Calls.all(alone); set += 5) {
                    Checks.due("shortest(" + set + ")", x.shortest(set), alone.shortest(set));
                    Checks.due("common in WORLD 0", x.common(set & 7, 3, 0), alone.common(set & 7, 3, 0));
                }
            }
        }
    }

    private static void notReadAnew() {
        Checks.says("tongue: -10 less FAULT: nothing changes (THE TEXT, too, stays)");
        NoWordNo x = kept();
        Checks.due("a FAULT", Calls.tongue(x, "choice 2;choice 9;"), -26);
        Checks.due("CHOICES", x.count(0), 2);
        Checks.due("WORLDS", x.count(1), 4);
        Checks.due("SAYINGS", x.count(2), 2);
        Checks.due("WORDS", x.count(3), 1);
        Checks.due("bytes", x.count(4), 18);
        Checks.due("again", x.tongue(), -26);
        Checks.due("IMAGE 1", x.back(1), 2);
        Checks.due("IMAGE 0", x.back(0), 1);
        Checks.due("the WORD", x.shortest(6), 1);
        Checks.due("SAYING 0", x.saying(0, 0), 5);
    }

    /** An object of four WORLDS with SAYINGS, a WORD, both IMAGES and a TRACE. */
    private static NoWordNo kept() {
        NoWordNo x = Calls.with("choice 2;choice 2;", "a 0");
        x.word(6);
        x.keep(0);
        Calls.say(x, "w 0");
        x.keep(1);
        x.mark(5, 0);
        Checks.due("SHORTEST by the WORD", x.shortest(6), 1);
        Checks.due("MADE by the WORD", x.made(6, 1), 30);
        return x;
    }
}
