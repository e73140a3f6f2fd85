/** The edges that the document names of SETS, short sayings, TERMS, REFUSALS and THE CONTRACT. */
public final class BoundarySetTest {
    private static final int BAD = Calls.BAD, FULL = Calls.FULL, NONE = Calls.NONE;
    private static final int LOWEST = Integer.MIN_VALUE, HIGHEST = Integer.MAX_VALUE;
    private static final int[][] TONGUES = {
        {}, {2}, {3}, {4}, {5}, {6}, {7}, {8}, {9}, {2, 2}, {2, 3}, {3, 2}, {3, 3}, {2, 4}, {4, 2}, {2, 2, 2},
    };

    public static void main(String[] args) {
        noSets();
        emptySetAndAll();
        whats();
        shortestNone();
        wordsAsTheyAre();
        madeOfASign();
        madeOfTwo();
        madeNone();
        termsOfASet();
        termsByHand();
        refusal();
        worst();
        worstOfNone();
        saves();
        savesAtTheEdges();
        contract();
        gap();
        clause();
        clauseOfNone();
        lost();
        Checks.end();
    }

    private static void noSets() {
        Checks.says("A SET of WORLDS: bits; BAD: no SET of WORLDS");
        for (int[] values : TONGUES) {
            String tongue = Calls.tongueOf(values);
            int all = Calls.all(Calls.with(tongue));
            for (int set : new int[] {
                -1, all + 1, -2, ~all, -1 - all, all + 2, 2 * all + 2, 1024, 1 << 16, 1 << 16 | 1, 1 << 30, LOWEST,
                LOWEST | 1, LOWEST | all, HIGHEST, HIGHEST - 1,
            }) {
                NoWordNo x = Calls.with(tongue);
                String of = tongue + " of " + set + ": ";
                Checks.due(of + "word", x.word(set), BAD);
                Checks.due(of + "no WORD more", x.count(3), 0);
                Checks.due(of + "shortest", x.shortest(set), BAD);
                Checks.due(of + "refusal", x.refusal(set), BAD);
                Checks.due(of + "gap", x.gap(set), BAD);
                Checks.due(of + "terms", x.terms(set, -1), BAD);
                Checks.due(of + "terms", x.terms(set, 0), BAD);
                for (int what = 0; what <= 2; what++) {
                    Checks.due(of + "made", x.made(set, what), BAD);
                    Checks.due(of + "clause", x.clause(set, what), BAD);
                }
            }
        }
    }

    private static void emptySetAndAll() {
        Checks.says("A SET of WORLDS: bits (the least, and the greatest)");
        for (int[] values : TONGUES) {
            if (values.length == 0) {
                continue;
            }
            int fewest = 9;
            for (int n : values) {
                fewest = Math.min(fewest, n);
            }
            NoWordNo x = Calls.with(Calls.tongueOf(values));
            int all = Calls.all(x);
            String of = Calls.tongueOf(values);
            Checks.due(of + "gap", x.gap(0), all);
            Checks.due(of + "gap", x.gap(all), 0);
            Checks.due(of + "shortest", x.shortest(0), 2);
            Checks.due(of + "shortest", x.shortest(all), fewest);
            Checks.due(of + "refusal", x.refusal(all), 2);
            Checks.due(of + "refusal", x.refusal(0), fewest);
            Checks.due(of + "made", x.made(0, 0), 1);
            Checks.due(of + "made", x.made(all, 0), 2);
            Checks.due(of + "terms", x.terms(0, -1), 0);
            Checks.due(of + "terms", x.terms(all, -1), 1);
            Checks.due(of + "clause", x.clause(0, 0), 0);
            Checks.due(of + "clause", x.clause(all, 0), all);
            Checks.due(of + "clause", x.clause(all, 1), fewest);
            Checks.due(of + "word", x.word(0), 1);
            Checks.due(of + "word", x.word(all), 2);
            Checks.due(of + "shortest", x.shortest(0), 1);
            Checks.due(of + "shortest", x.shortest(all), 1);
        }
    }

    private static void whats() {
        Checks.says("what = 0, 1, 2. BAD");
        int[] wrong = {LOWEST, -9, -3, -2, -1, 3, 4, 10, 256, 65536, HIGHEST};
        NoWordNo x = Calls.with("choice 2;choice 3;", "a 0");
        for (int what : wrong) {
            Checks.due("made " + what, x.made(1, what), BAD);
            Checks.due("made " + what + " of a SIGN", x.made(3, what), BAD);
            Checks.due("clause " + what, x.clause(1, what), BAD);
            Checks.due("worst " + what, x.worst(what), BAD);
            Checks.due("saves " + what, x.saves(what), BAD);
            Checks.due("saying " + what, x.saying(0, what), BAD);
        }
        Checks.due("made 2", x.made(1, 2), 21);
        Checks.due("made 2 of a SIGN", x.made(3, 2), 0);
        Checks.due("clause 2", x.clause(1, 2), BAD);
        Checks.due("clause 1", x.clause(1, 1), 1);
        Checks.due("worst 2", x.worst(2), BAD);
        Checks.due("worst 1", x.worst(1), 2);
        Checks.due("saves 2", x.saves(2), BAD);
        Checks.due("saves 1", x.saves(1), 7);
        Checks.due("saying 2", x.saying(0, 2), BAD);
        Checks.due("saying 1", x.saying(0, 1), 1);
        NoWordNo y = new NoWordNo();
        for (int what : wrong) {
            Checks.due("made " + what + " ahead of NONE", y.made(0, what), BAD);
            Checks.due("clause " + what + " ahead of NONE", y.clause(0, what), BAD);
            Checks.due("worst " + what + " ahead of NONE", y.worst(what), BAD);
            Checks.due("saves " + what + " ahead of NONE", y.saves(what), BAD);
        }
    }

    private static void shortestNone() {
        Checks.says("SHORTEST .. NONE: there is none");
        NoWordNo x = new NoWordNo();
        Checks.due("without a SIGN", x.shortest(0), NONE);
        Checks.due("without a SIGN", x.shortest(1), NONE);
        x.word(1);
        Checks.due("not by that WORD", x.shortest(0), NONE);
        Checks.due("by that WORD", x.shortest(1), 1);
        x.word(0);
        Checks.due("by the other WORD", x.shortest(0), 1);
        x.unword();
        x.word(0);
        Checks.due("by the WORD", x.shortest(0), 1);
        Checks.due("not by that WORD", x.shortest(1), NONE);
        Checks.says("SHORTEST for a SET: the fewest SIGNS of a SAYING that LEAVES just that (there always is one)");
        for (int[] values : TONGUES) {
            for (int set = 0; values.length > 0 && set < 512; set += 300) {
                NoWordNo y = Calls.with(Calls.tongueOf(values));
                int all = Calls.all(y);
                for (int s = set; s <= all && s < set + 300; s++) {
                    Checks.due("SHORTEST of " + s + " is one", y.shortest(s) > 0 ? 1 : 0, 1);
                }
            }
        }
    }

    private static void wordsAsTheyAre() {
        Checks.says("SHORTEST .. (with WORDS as they are)");
        NoWordNo x = Calls.with("choice 2;choice 2;choice 2;");
        int odd = 0b10010110;
        Checks.due("without", x.shortest(odd), 10);
        Checks.due("its refusal", x.refusal(255 - odd), 10);
        x.word(odd);
        Checks.due("with", x.shortest(odd), 1);
        Checks.due("its refusal", x.refusal(255 - odd), 1);
        Checks.due("MADE", x.made(odd, 1), 30);
        x.unword();
        Checks.due("without again", x.shortest(odd), 10);
        Checks.due("MADE of two", x.made(odd, 0), 1);
        x.word(255);
        Checks.due("by another", x.shortest(odd), 10);
        x.word(odd);
        x.word(odd);
        Checks.due("with three", x.shortest(odd), 1);
        Checks.due("MADE by the first of them", x.made(odd, 1), 31);
    }

    private static void madeOfASign() {
        Checks.says("a SIGN alone (of several the first: by CHOICES, then VALUES, then WORDS: 10 times the CHOICE, "
            + "3 for WORDS, and the VALUE or number)");
        for (int[] values : TONGUES) {
            NoWordNo x = Calls.with(Calls.tongueOf(values));
            for (int c = 0; c < values.length; c++) {
                for (int v = 0; v < values[c]; v++) {
                    int set = 0;
                    for (int w = 0; w < x.count(1); w++) {
                        set |= x.value(w, c) == v ? 1 << w : 0;
                    }
                    Checks.due("a SIGN", x.made(set, 0), 0);
                    Checks.due("which", x.made(set, 1), 10 * c + v);
                    Checks.due("no second", x.made(set, 2), 0);
                    Checks.due("one SIGN", x.shortest(set), 1);
                }
            }
        }
        NoWordNo x = Calls.with("choice 2;choice 2;");
        x.word(10);
        x.word(9);
        x.word(9);
        Checks.due("a CHOICE ahead of a WORD", x.made(10, 1), 1);
        Checks.due("the first WORD of two", x.made(9, 1), 31);
        Checks.due("a WORD alone", x.made(9, 0), 0);
        Checks.due("no second", x.made(9, 2), 0);
        NoWordNo y = new NoWordNo();
        y.word(0);
        y.word(0);
        y.word(1);
        Checks.due("WORD 0", y.made(0, 1), 30);
        Checks.due("WORD 2", y.made(1, 1), 32);
    }

    private static void madeOfTwo() {
        Checks.says("else & of two SETS, else | of two: each of these as short as can be; of several & first");
        NoWordNo x = Calls.with("choice 2;choice 2;");
        Checks.due("& as short as |", x.made(6, 0), 1);
        Checks.due("first", x.made(6, 1), 7);
        Checks.due("second", x.made(6, 2), 14);
        Checks.due("& alone", x.made(1, 0), 1);
        Checks.due("first", x.made(1, 1), 3);
        Checks.due("second", x.made(1, 2), 5);
        Checks.due("| alone", x.made(7, 0), 2);
        Checks.due("first", x.made(7, 1), 3);
        Checks.due("second", x.made(7, 2), 5);
        Checks.says("of several .. that with the least first SET, then the least second one");
        NoWordNo y = Calls.with("choice 3;");
        Checks.due("&", y.made(0, 0), 1);
        Checks.due("the least first", y.made(0, 1), 1);
        Checks.due("the least second", y.made(0, 2), 2);
        Checks.due("|", y.made(7, 0), 2);
        Checks.due("the least first", y.made(7, 1), 1);
        Checks.due("the least second", y.made(7, 2), 6);
    }

    private static void madeNone() {
        Checks.says("made: NONE");
        NoWordNo x = new NoWordNo();
        for (int what = 0; what <= 2; what++) {
            Checks.due("without a SIGN", x.made(0, what), NONE);
            Checks.due("without a SIGN", x.made(1, what), NONE);
        }
        x.word(1);
        for (int what = 0; what <= 2; what++) {
            Checks.due("not by that WORD", x.made(0, what), NONE);
            Checks.due("by that WORD", x.made(1, what), what == 1 ? 30 : 0);
        }
    }

    private static void termsOfASet() {
        Checks.says("terms: how many (i = -1), the WORLDS of the i-th (rising). BAD (beyond, too)");
        for (int[] values : TONGUES) {
            String tongue = Calls.tongueOf(values);
            int all = Calls.all(Calls.with(tongue));
            for (int set = 0; set <= all; set++) {
                NoWordNo x = Calls.with(tongue);
                int many = x.terms(set, -1);
                int last = 0;
                int together = 0;
                for (int i = 0; i < many; i++) {
                    int term = x.terms(set, i);
                    Checks.due("the next one is more", term > last ? 1 : 0, 1);
                    Checks.due("of the SET", term & ~set, 0);
                    together |= term;
                    last = term;
                }
                Checks.due("all of the SET is in one", together, set);
                for (int i : new int[] {many, many + 1, many + 32, HIGHEST, -2, -3, LOWEST}) {
                    Checks.due(tongue + " term " + i + " of " + set, x.terms(set, i), BAD);
                }
            }
        }
    }

    private static void termsByHand() {
        Checks.says("TERMS: all ways to fix VALUES of some CHOICES (or of none) so that all their WORLDS are in it");
        NoWordNo x = Calls.with("choice 2;choice 2;choice 2;");
        Checks.due("of none", x.terms(255, 0), 255);
        Checks.due("of none, alone", x.terms(255, -1), 1);
        Checks.due("of one", x.terms(15, 0), 15);
        Checks.due("of two", x.terms(3, 0), 3);
        Checks.due("of all", x.terms(1, 0), 1);
        Checks.due("all but one", x.terms(254, -1), 3);
        Checks.due("all but one", x.terms(254, 0), 170);
        Checks.due("all but one", x.terms(254, 1), 204);
        Checks.due("all but one", x.terms(254, 2), 240);
        Checks.says("TERMS: .. and with any of these VALUES not fixed some are not");
        Checks.due("two that overlap", x.terms(7, -1), 2);
        Checks.due("two that overlap", x.terms(7, 0), 3);
        Checks.due("two that overlap", x.terms(7, 1), 5);
        NoWordNo y = Calls.with("choice 9;");
        Checks.due("one each", y.terms(255, -1), 8);
        Checks.due("the last", y.terms(255, 7), 128);
        Checks.due("beyond", y.terms(255, 8), BAD);
        Checks.due("of none", y.terms(511, -1), 1);
    }

    private static void refusal() {
        Checks.says("A REFUSAL of a SET: SHORTEST for all other WORLDS; NONE");
        for (int[] values : TONGUES) {
            String tongue = Calls.tongueOf(values);
            int all = Calls.all(Calls.with(tongue));
            for (int from = 0; from <= all; from += 100) {
                NoWordNo x = Calls.with(tongue);
                for (int set = from; set <= all && set < from + 100; set++) {
                    Checks.due(tongue + " of " + set, x.refusal(set), x.shortest(all - set));
                }
                x.word(all & 5);
                for (int set = from; set <= all && set < from + 100; set++) {
                    Checks.due(tongue + " of " + set + " with a WORD", x.refusal(set), x.shortest(all - set));
                }
            }
        }
        NoWordNo y = new NoWordNo();
        Checks.due("none", y.refusal(0), NONE);
        Checks.due("none", y.refusal(1), NONE);
        y.word(0);
        Checks.due("by the WORD", y.refusal(1), 1);
        Checks.due("none", y.refusal(0), NONE);
    }

    private static void worst() {
        Checks.says("WORST: the SIGN of a CHOICE whose REFUSAL is longest, of several the first");
        int[][] tongues = {{2}, {3}, {9}, {2, 2}, {2, 3}, {3, 2}, {3, 3}, {2, 4}, {4, 2}, {2, 2, 2}};
        int[] signs = {0, 0, 0, 0, 10, 0, 0, 10, 0, 0};
        int[] lengths = {1, 2, 8, 1, 2, 2, 2, 3, 3, 1};
        for (int i = 0; i < tongues.length; i++) {
            NoWordNo x = Calls.with(Calls.tongueOf(tongues[i]));
            Checks.due(Calls.tongueOf(tongues[i]) + " the SIGN", x.worst(0), signs[i]);
            Checks.due(Calls.tongueOf(tongues[i]) + " how long", x.worst(1), lengths[i]);
        }
        NoWordNo x = Calls.with("choice 2;choice 4;");
        int[] refusals = {0b11111100, 0b11110011, 0b11001111};
        for (int i = 0; i < 3; i++) {
            x.word(refusals[i]);
            Checks.due("the next SIGN", x.worst(0), 11 + i);
            Checks.due("as long", x.worst(1), 3);
        }
    }

    private static void worstOfNone() {
        Checks.says("WORST: .. NONE: no CHOICES");
        NoWordNo x = new NoWordNo();
        for (int words = 0; words <= 3; words++) {
            Checks.due("the SIGN with " + words + " WORDS", x.worst(0), NONE);
            Checks.due("how long with " + words + " WORDS", x.worst(1), NONE);
            x.word(words & 1);
        }
        NoWordNo y = Calls.with("choice 2;");
        Checks.due("of the least CHOICE", y.worst(0), 0);
        Calls.tongue(y, "");
        Checks.due("no CHOICES again", y.worst(0), NONE);
    }

    private static void saves() {
        Checks.says("SAVES: that SIGN .. the least: of several the first; what these are then");
        int[][] tongues = {{2}, {3}, {9}, {2, 2}, {2, 3}, {3, 2}, {2, 2, 2}};
        int[] signs = {0, 0, 0, 0, 10, 0, 0};
        int[] sums = {2, 5, 65, 4, 7, 7, 6};
        for (int i = 0; i < tongues.length; i++) {
            NoWordNo x = Calls.with(Calls.tongueOf(tongues[i]));
            Checks.due(Calls.tongueOf(tongues[i]) + " the SIGN", x.saves(0), signs[i]);
            Checks.due(Calls.tongueOf(tongues[i]) + " all then", x.saves(1), sums[i]);
            Checks.due(Calls.tongueOf(tongues[i]) + " it is no WORD yet", x.count(3), 0);
        }
        NoWordNo x = Calls.with("choice 2;choice 3;");
        Checks.due("as it was", x.refusal(3), 2);
        x.word(60);
        Checks.due("the next SIGN", x.saves(0), 11);
        Checks.due("all then", x.saves(1), 6);
        x.word(51);
        Checks.due("the last SIGN, with 2 WORDS", x.saves(0), 12);
        Checks.due("all then", x.saves(1), 5);
        x.word(51);
        Checks.due("3 WORDS", x.saves(0), FULL);
        Checks.due("3 WORDS", x.saves(1), FULL);
        x.unword();
        Checks.due("no WORDS", x.saves(0), 10);
        Checks.due("no WORDS", x.saves(1), 7);
    }

    private static void savesAtTheEdges() {
        Checks.says("saves: NONE. BAD; FULL: there are 3 WORDS (without CHOICES, too)");
        NoWordNo x = new NoWordNo();
        for (int words = 0; words <= 3; words++) {
            Checks.due("with " + words + " WORDS", x.saves(0), words == 3 ? FULL : NONE);
            Checks.due("with " + words + " WORDS", x.saves(1), words == 3 ? FULL : NONE);
            Checks.due("BAD is first", x.saves(2), BAD);
            Checks.due("BAD is first", x.saves(-1), BAD);
            x.word(words & 1);
        }
        NoWordNo y = Calls.with("choice 9;");
        for (int words = 0; words <= 3; words++) {
            Checks.due("with " + words + " WORDS", y.saves(0) >= 0 ? 0 : y.saves(0), words == 3 ? FULL : 0);
            Checks.due("BAD is first", y.saves(2), BAD);
            y.word(words);
        }
    }

    private static void contract() {
        Checks.says("THE CONTRACT: what all SAYINGS LEAVE together (none: all WORLDS)");
        for (int[] values : TONGUES) {
            NoWordNo x = Calls.with(Calls.tongueOf(values));
            Checks.due("none", x.contract(), Calls.all(x));
        }
        NoWordNo x = Calls.with("choice 9;");
        String text = "a 0|a 1|a 2|a 3|a 4|a 5|a 6|a 7|a 8";
        for (int k = 0; k < 8; k++) {
            // one that leaves all but WORLD k
            Calls.say(x, k == 0 ? text.substring(4) : text.substring(0, 4 * k) + text.substring(4 * k + 4));
            Checks.due(k + 1 + " SAYINGS", x.contract(), 511 & -1 << k + 1);
        }
        for (int k = 7; k >= 0; k--) {
            x.unsay();
            Checks.due(k + " SAYINGS", x.contract(), 511 & -1 << k);
        }
        NoWordNo y = Calls.with("choice 2;", "a 0&a 1");
        Checks.due("nothing", y.contract(), 0);
    }

    private static void gap() {
        Checks.says("GAP for a SET: WORLDS that it LEAVES beyond the SET");
        for (String saying : new String[] {"a 0|b 2", "a 0&a 1", "a 0|a 1"}) {
            NoWordNo x = Calls.with("choice 2;choice 3;", saying);
            for (int set = 0; set < 64; set++) {
                Checks.due(saying + " beyond " + set, x.gap(set), x.contract() & 63 - set);
            }
            Checks.due("below", x.gap(-1), BAD);
            Checks.due("beyond", x.gap(64), BAD);
        }
    }

    private static void clause() {
        Checks.says("CLAUSE .. LEAVES of THE CONTRACT just what is in the SET: of several the least SET");
        NoWordNo x = Calls.with("choice 2;choice 2;", "a 0&a 1");
        for (int set = 0; set < 16; set++) {
            Checks.due("an empty CONTRACT", x.clause(set, 0), 3);
            Checks.due("an empty CONTRACT", x.clause(set, 1), 1);
        }
        NoWordNo y = Calls.with("choice 2;choice 2;");
        for (int set = 0; set < 16; set++) {
            Checks.due("all are left", y.clause(set, 0), set);
            Checks.due("all are left", y.clause(set, 1), y.shortest(set));
        }
        NoWordNo z = Calls.with("choice 2;choice 2;", "a 0");
        Checks.due("one of the CONTRACT", z.clause(1, 0), 3);
        Checks.due("WORLDS beyond the CONTRACT do nothing", z.clause(11, 0), 3);
        Checks.due("none of it", z.clause(10, 0), 10);
        Checks.due("all of it", z.clause(5, 0), 5);
        for (int k = 1; k < 8; k++) {
            Calls.say(z, "a 0");
        }
        Checks.due("with 8 SAYINGS, too", z.clause(1, 0), 3);
    }

    private static void clauseOfNone() {
        Checks.says("clause: NONE");
        NoWordNo x = new NoWordNo();
        for (int what = 0; what <= 1; what++) {
            Checks.due("without a SIGN", x.clause(0, what), NONE);
            Checks.due("without a SIGN", x.clause(1, what), NONE);
        }
        x.word(1);
        for (int what = 0; what <= 1; what++) {
            Checks.due("not by that WORD", x.clause(0, what), NONE);
            Checks.due("by that WORD", x.clause(1, what), 1);
        }
        x.word(0);
        Checks.due("by the other WORD", x.clause(0, 0), 0);
        Checks.due("by the other WORD", x.clause(0, 1), 1);
        Calls.say(x, "w 1");
        Checks.due("an empty CONTRACT, the least SET", x.clause(1, 0), 0);
    }

    private static void lost() {
        Checks.says("LOST: by how many WORLDS more THE CONTRACT LEAVES without SAYING i. BAD");
        NoWordNo none = Calls.with("choice 3;");
        Checks.due("no SAYINGS", none.lost(0), BAD);
        NoWordNo x = Calls.with("choice 9;");
        for (int k = 0; k < 8; k++) {
            Calls.say(x, "a " + k);
            for (int i : new int[] {-1, k + 1, k + 2, LOWEST, HIGHEST, -8, 8, 9}) {
                Checks.due("LOST " + i + " of " + (k + 1), x.lost(i), BAD);
            }
            Checks.due("the last one", x.lost(k), k == 0 ? 8 : k == 1 ? 1 : 0);
            Checks.due("the first one", x.lost(0), k == 0 ? 8 : k == 1 ? 1 : 0);
        }
        NoWordNo y = Calls.with("choice 2;", "a 0|a 1");
        Checks.due("none", y.lost(0), 0);
        NoWordNo z = Calls.with("choice 9;", "a 0&a 1");
        Checks.due("all", z.lost(0), 9);
    }
}
