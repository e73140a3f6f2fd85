/** For each promise: ordinary inputs, the edges that the document names, and wrong inputs. */
public final class PromisesTest {
    private static final int BAD = -1, STATE = -2, FULL = -3, NONE = -9, NO = -1000000;
    private static int wrong = 0;
    private static int checks = 0;
    private static int promise = 0;

    public static void main(String[] args) {
        newObject();
        type();
        clear();
        tongue();
        tongueFaults();
        say();
        sayFaults();
        unsay();
        word();
        unword();
        value();
        saying();
        alike();
        shortest();
        made();
        terms();
        refusal();
        worst();
        saves();
        contract();
        gap();
        clause();
        lost();
        common();
        talk();
        silence();
        mark();
        keep();
        back();
        count();
        trace();
        System.out.println(checks + " checks, " + wrong + " wrong");
        if (wrong != 0) {
            System.exit(1);
        }
    }

    private static void due(String call, long got, long want) {
        checks++;
        if (got != want) {
            wrong++;
            System.out.println("promise " + promise + ": " + call + " answered " + got + ", due is " + want);
        }
    }

    private static void typeAll(NoWordNo x, String s) {
        for (int i = 0; i < s.length(); i++) {
            x.type(s.charAt(i), 1);
        }
    }

    private static int tongueOf(NoWordNo x, String s) {
        typeAll(x, s);
        return x.tongue();
    }

    private static int sayOf(NoWordNo x, String s) {
        typeAll(x, s);
        return x.say();
    }

    private static NoWordNo with(String tongue, String... sayings) {
        NoWordNo x = new NoWordNo();
        int choices = tongueOf(x, tongue);
        if (choices < 0) {
            due("tongue of " + tongue, choices, 0);
        }
        for (int i = 0; i < sayings.length; i++) {
            int k = sayOf(x, sayings[i]);
            if (k != i + 1) {
                due("say of " + sayings[i], k, i + 1);
            }
        }
        return x;
    }

    private static void tongueIs(String s, int want) {
        NoWordNo x = new NoWordNo();
        typeAll(x, s);
        int had = x.count(4);
        due("tongue of '" + s + "'", x.tongue(), want);
        due("text after '" + s + "'", x.count(4), want < 0 ? had : 0);
    }

    private static void sayIs(NoWordNo x, String s, int want) {
        x.clear();
        typeAll(x, s);
        int had = x.count(4);
        int sayings = x.count(2);
        due("say of '" + s + "'", x.say(), want);
        due("text after '" + s + "'", x.count(4), want < 0 ? had : 0);
        due("sayings after '" + s + "'", x.count(2), want < 0 ? sayings : want);
        x.clear();
    }

    private static void newObject() {
        promise = 1;
        NoWordNo x = new NoWordNo();
        due("choices", x.count(0), 0);
        due("worlds", x.count(1), 1);
        due("sayings", x.count(2), 0);
        due("words", x.count(3), 0);
        due("bytes", x.count(4), 0);
        due("trace", x.trace(), 0);
        due("image", x.back(1), STATE);
        due("BAD", NoWordNo.BAD, BAD);
        due("STATE", NoWordNo.STATE, STATE);
        due("FULL", NoWordNo.FULL, FULL);
        due("NONE", NoWordNo.NONE, NONE);
        due("NO", NoWordNo.NO, NO);
    }

    private static void type() {
        promise = 2;
        NoWordNo x = new NoWordNo();
        due("n 0", x.type('a', 0), BAD);
        due("n 9", x.type('a', 9), BAD);
        due("n lowest", x.type('a', Integer.MIN_VALUE), BAD);
        // 'choice 2' with more bytes above that do not count
        due("8", x.type(0x63686f6963652032L, 8), 8);
        due("1 of many", x.type(0x7777777777777700L + ';', 1), 9);
        due("read", x.tongue(), 1);
        for (int i = 0; i < 24; i++) {
            due("fill", x.type(-1L, 8), 8 * i + 8);
        }
        due("195", x.type(0, 3), 195);
        due("six do not fit", x.type(0, 6), FULL);
        due("none came", x.count(4), 195);
        due("five fit", x.type(0, 5), 200);
        due("full", x.type(0, 1), FULL);
        due("bad is first", x.type(0, 9), BAD);
    }

    private static void clear() {
        promise = 3;
        NoWordNo x = new NoWordNo();
        due("empty", x.clear(), 0);
        typeAll(x, "choice 2;");
        due("nine", x.clear(), 9);
        due("empty again", x.clear(), 0);
        typeAll(x, ";");
        due("old bytes are gone", x.tongue(), -10);
    }

    private static void tongue() {
        promise = 4;
        NoWordNo x = new NoWordNo();
        due("three", tongueOf(x, "choice 2; choice2;choice  2 ; "), 3);
        due("worlds", x.count(1), 8);
        due("text", x.count(4), 0);
        sayOf(x, "a 0");
        x.word(3);
        x.keep(0);
        x.mark(0, 0);
        due("fault changes nothing", tongueOf(x, "choice 1;"), -17);
        due("sayings stay", x.count(2), 1);
        due("words stay", x.count(3), 1);
        due("worlds stay", x.count(1), 8);
        due("text stays", x.clear(), 9);
        due("the image stays", x.back(0), 1);
        due("anew", tongueOf(x, "choice 9;"), 1);
        due("no sayings", x.count(2), 0);
        due("no words", x.count(3), 0);
        due("worlds", x.count(1), 9);
        due("no image", x.back(0), STATE);
        due("the trace stays", x.trace(), 1);
        due("lengths are anew", x.shortest(511), 9);
        due("no items", tongueOf(x, ""), 0);
        due("no items, one world", x.count(1), 1);
        tongueIs("   ", 0);
        tongueIs("choice 4;choice 2;", 2);
        tongueIs("choice 3;choice 3;", 2);
    }

    private static void tongueFaults() {
        promise = 4;
        tongueIs("choice", -16);
        tongueIs("choice  ", -18);
        tongueIs("choice 2", -18);
        tongueIs("choice 0;", -17);
        tongueIs("choice 1;", -17);
        tongueIs("choice 10;", -17);
        tongueIs("choice 02;", -17);
        tongueIs("choice 100;", -17);
        tongueIs("choice 4294967298;", -17);
        tongueIs("choice 2 2;", -19);
        tongueIs("choice 2;;", -19);
        tongueIs("choice ;", -17);
        tongueIs("choices 2;", -10);
        tongueIs(" Choice 2;", -11);
        tongueIs("choic 2;", -10);
        tongueIs("xhoice 2;", -10);
        tongueIs("choicz 2;", -10);
        tongueIs("choicez 2;", -10);
        tongueIs("choice 2;choicechoice 2;", -19);
        tongueIs("choice choice", -17);
        tongueIs("\tchoice 2;", -10);
        tongueIs("choice 2?", -18);
        tongueIs("choice 5;choice 2;", -26);
        tongueIs("choice 3;choice 3;choice 2;", -35);
        tongueIs("choice 2;choice 2;choice 2;choice", -37);
        tongueIs("choice 2;choice 2;choice 2;x", -37);
        tongueIs("2;", -10);
        tongueIs("\0", -10);
    }

    private static void say() {
        promise = 5;
        NoWordNo x = with("choice 2;choice 3;");
        due("first", sayOf(x, "a 0"), 1);
        due("text", x.count(4), 0);
        due("& binds closer", sayOf(x, "a 0|a 1&b 0"), 2);
        due("left", x.saying(1, 0), 0b010111);
        due("( ) bind closest", sayOf(x, "(a 0|a 1)&b 0"), 3);
        due("left", x.saying(2, 0), 0b000011);
        due("no blanks", sayOf(x, "(a0|b2)&(b0|(a1&b1))"), 4);
        due("left", x.saying(3, 0), 0b000001);
        due("signs", x.saying(3, 1), 5);
        x.word(0b100001);
        due("a word", sayOf(x, "w 0 & a 1"), 5);
        due("left", x.saying(4, 0), 0b100000);
        due("nine deep", sayOf(x, "(((((((((a 0)))))))))"), 6);
        due("twice nine deep", sayOf(x, "(((((((((a 0)))))))))|(((((((((a 1)))))))))"), 7);
        due("the last", sayOf(x, "b 2"), 8);
        due("full", sayOf(x, "b 2"), FULL);
        due("text stays", x.count(4), 3);
        x.clear();
        due("full is first", sayOf(x, "?"), FULL);
        due("eight", x.count(2), 8);
    }

    private static void sayFaults() {
        promise = 5;
        NoWordNo x = with("choice 2;choice 3;");
        sayIs(x, "", -10);
        sayIs(x, "  ", -12);
        sayIs(x, "a", -11);
        sayIs(x, "a ", -12);
        sayIs(x, "a 2", -12);
        sayIs(x, "b 3", -12);
        sayIs(x, "c 0", -10);
        sayIs(x, "d 0", -10);
        sayIs(x, "w", -11);
        sayIs(x, "w 0", -12);
        sayIs(x, "a 00", -12);
        sayIs(x, "a 01", -12);
        sayIs(x, "a 100", -12);
        sayIs(x, "a 4294967296", -12);
        sayIs(x, "a 10", -12);
        sayIs(x, "a a", -12);
        sayIs(x, "ab 0", -10);
        sayIs(x, "az 0", -10);
        sayIs(x, "z 0", -10);
        sayIs(x, "0", -10);
        sayIs(x, "a 0 b 0", -14);
        sayIs(x, "a 0|", -14);
        sayIs(x, "a 0&", -14);
        sayIs(x, "a 0|&a 1", -14);
        sayIs(x, "|a 0", -10);
        sayIs(x, "&a 0", -10);
        sayIs(x, "()", -11);
        sayIs(x, "(", -11);
        sayIs(x, "(a 0", -14);
        sayIs(x, "a 0)", -13);
        sayIs(x, "(a 0))", -15);
        sayIs(x, "a 0(", -13);
        sayIs(x, "a 0;", -13);
        sayIs(x, "choice", -10);
        sayIs(x, "a 0 ?", -14);
        sayIs(x, "a\t0", -11);
        sayIs(x, "((((((((((a 0))))))))))", -19);
        sayIs(x, "a 0|" + "\u00c8", -14);
        sayIs(with(""), "a 0", -10);
        NoWordNo y = with("choice 2;");
        y.word(1);
        sayIs(y, "w 1", -12);
        sayIs(y, "w 0", 1);
        StringBuilder whole = new StringBuilder();
        for (int i = 0; i < 66; i++) {
            whole.append("a0|");
        }
        sayIs(y, whole + "a1", 2);
        due("signs of the longest", y.saying(1, 1), 67);
        sayIs(y, whole + "a1".substring(0, 1) + " ", -210);
    }

    private static void unsay() {
        promise = 6;
        NoWordNo x = with("choice 2;", "a 0", "a 1");
        due("two", x.unsay(), 1);
        due("the last one went", x.saying(0, 0), 1);
        due("gone", x.saying(1, 0), BAD);
        due("one", x.unsay(), 0);
        due("none", x.unsay(), STATE);
        due("none", x.count(2), 0);
    }

    private static void word() {
        promise = 7;
        NoWordNo x = with("choice 3;");
        due("below", x.word(-1), BAD);
        due("beyond", x.word(8), BAD);
        due("one", x.word(0), 1);
        due("two", x.word(7), 2);
        due("three", x.word(7), 3);
        due("bad is first", x.word(8), BAD);
        due("full", x.word(1), FULL);
        due("three", x.count(3), 3);
        due("a word shortens", x.shortest(7), 1);
        NoWordNo y = new NoWordNo();
        due("one world", y.word(1), 1);
        due("beyond one world", y.word(2), BAD);
    }

    private static void unword() {
        promise = 8;
        NoWordNo x = with("choice 3;");
        due("none", x.unword(), 0);
        x.word(6);
        x.word(7);
        sayOf(x, "w 1");
        due("shorter", x.shortest(6), 1);
        due("two", x.unword(), 2);
        due("none", x.count(3), 0);
        due("as before", x.shortest(6), 2);
        due("the saying stays as it was", x.saying(0, 0), 7);
    }

    private static void value() {
        promise = 9;
        NoWordNo x = with("choice 2;choice 2;choice 2;");
        for (int w = 0; w < 8; w++) {
            due("a", x.value(w, 0), w & 1);
            due("b", x.value(w, 1), w >> 1 & 1);
            due("c", x.value(w, 2), w >> 2);
        }
        due("world below", x.value(-1, 0), BAD);
        due("world beyond", x.value(8, 0), BAD);
        due("choice below", x.value(0, -1), BAD);
        due("choice beyond", x.value(0, 3), BAD);
        NoWordNo y = with("choice 4;choice 2;");
        for (int w = 0; w < 8; w++) {
            due("a of 4", y.value(w, 0), w % 4);
            due("b of 2", y.value(w, 1), w / 4);
        }
        due("no choice", new NoWordNo().value(0, 0), BAD);
    }

    private static void saying() {
        promise = 10;
        NoWordNo x = with("choice 3;", "a 0|a 1", "a 2&a 2&a 2");
        due("left", x.saying(0, 0), 3);
        due("signs", x.saying(0, 1), 2);
        due("left", x.saying(1, 0), 4);
        due("signs", x.saying(1, 1), 3);
        due("what beyond", x.saying(0, 2), BAD);
        due("what below", x.saying(0, -1), BAD);
        due("k beyond", x.saying(2, 0), BAD);
        due("k below", x.saying(-1, 0), BAD);
    }

    private static void alike() {
        promise = 11;
        NoWordNo x = with("choice 3;", "a 0|a 1", "a 1|a 0|a 0", "a 2");
        due("alike", x.alike(0, 1), 1);
        due("itself", x.alike(2, 2), 1);
        due("not", x.alike(1, 2), 0);
        due("beyond", x.alike(0, 3), BAD);
        due("below", x.alike(-1, 0), BAD);
        due("beyond", x.alike(3, 0), BAD);
    }

    private static void shortest() {
        promise = 12;
        NoWordNo x = new NoWordNo();
        due("nothing can be said", x.shortest(0), NONE);
        due("nothing can be said", x.shortest(1), NONE);
        due("no set", x.shortest(2), BAD);
        due("no set", x.shortest(-1), BAD);
        x.word(0);
        due("a word", x.shortest(0), 1);
        due("still none", x.shortest(1), NONE);
        NoWordNo y = with("choice 2;choice 2;choice 2;");
        due("all", y.shortest(255), 2);
        due("odd", y.shortest(0b10010110), 10);
        due("one", y.shortest(1), 3);
        due("most", y.shortest(254), 3);
        due("beyond", y.shortest(256), BAD);
        y.word(0b10010110);
        due("odd by a word", y.shortest(0b10010110), 1);
    }

    private static void made() {
        promise = 13;
        NoWordNo x = with("choice 2;choice 3;");
        due("a sign", x.made(0b110000, 0), 0);
        due("which", x.made(0b110000, 1), 12);
        due("no second", x.made(0b110000, 2), 0);
        due("both", x.made(1, 0), 1);
        due("first", x.made(1, 1), 3);
        due("second", x.made(1, 2), 21);
        due("either", x.made(15, 0), 2);
        due("first", x.made(15, 1), 3);
        due("second", x.made(15, 2), 12);
        due("& ahead of |", x.made(0, 0), 1);
        x.word(21);
        x.word(15);
        x.word(15);
        due("choices first", x.made(21, 1), 0);
        due("the first word", x.made(15, 1), 31);
        due("what beyond", x.made(1, 3), BAD);
        due("what below", x.made(1, -1), BAD);
        due("set beyond", x.made(64, 0), BAD);
        NoWordNo y = new NoWordNo();
        due("none", y.made(0, 2), NONE);
        due("bad is first", y.made(0, 3), BAD);
        y.word(1);
        due("word", y.made(1, 1), 30);
        due("none", y.made(0, 1), NONE);
    }

    private static void terms() {
        promise = 14;
        NoWordNo x = with("choice 2;choice 3;");
        due("all", x.terms(63, -1), 1);
        due("all", x.terms(63, 0), 63);
        due("none", x.terms(0, -1), 0);
        due("none", x.terms(0, 0), BAD);
        due("two", x.terms(43, -1), 2);
        due("rising", x.terms(43, 0), 3);
        due("rising", x.terms(43, 1), 42);
        due("beyond", x.terms(43, 2), BAD);
        due("far beyond", x.terms(43, Integer.MAX_VALUE), BAD);
        due("below", x.terms(43, -2), BAD);
        due("no set", x.terms(64, -1), BAD);
        NoWordNo y = with("choice 3;choice 3;");
        due("one but the middle", y.terms(495, -1), 4);
        due("three ways", y.terms(495, 3), 448);
        NoWordNo z = new NoWordNo();
        due("without choices", z.terms(1, -1), 1);
        due("without choices", z.terms(1, 0), 1);
        due("without choices", z.terms(0, -1), 0);
    }

    private static void refusal() {
        promise = 15;
        NoWordNo x = with("choice 9;");
        due("eight", x.refusal(1), 8);
        due("all", x.refusal(511), 2);
        due("nothing", x.refusal(0), 9);
        due("one", x.refusal(510), 1);
        due("beyond", x.refusal(512), BAD);
        due("below", x.refusal(-1), BAD);
        x.word(510);
        due("by a word", x.refusal(1), 1);
        due("none", new NoWordNo().refusal(0), NONE);
    }

    private static void worst() {
        promise = 16;
        NoWordNo x = with("choice 2;choice 4;");
        due("sign", x.worst(0), 10);
        due("long", x.worst(1), 3);
        due("beyond", x.worst(2), BAD);
        due("below", x.worst(-1), BAD);
        x.word(0b11111100);
        due("the next", x.worst(0), 11);
        x.word(0b11110011);
        due("the one behind that", x.worst(0), 12);
        due("as long", x.worst(1), 3);
        NoWordNo y = new NoWordNo();
        due("none", y.worst(1), NONE);
        due("bad is first", y.worst(2), BAD);
        y.word(1);
        due("no choices", y.worst(0), NONE);
    }

    private static void saves() {
        promise = 17;
        NoWordNo x = with("choice 2;choice 3;");
        due("sign", x.saves(0), 10);
        due("all", x.saves(1), 7);
        x.word(60);
        due("next sign", x.saves(0), 11);
        due("all", x.saves(1), 6);
        x.word(51);
        due("last sign", x.saves(0), 12);
        due("all", x.saves(1), 5);
        x.unword();
        due("as before", x.saves(0), 10);
        x.word(0);
        x.word(0);
        x.word(0);
        due("full", x.saves(0), FULL);
        due("bad is first", x.saves(2), BAD);
        NoWordNo y = new NoWordNo();
        due("none", y.saves(1), NONE);
        due("below", y.saves(-1), BAD);
        y.word(1);
        y.word(1);
        due("none", y.saves(0), NONE);
        y.word(1);
        due("full without choices", y.saves(0), FULL);
    }

    private static void contract() {
        promise = 18;
        NoWordNo x = with("choice 3;");
        due("all", x.contract(), 7);
        sayOf(x, "a 0|a 1");
        due("first", x.contract(), 3);
        sayOf(x, "a 1|a 2");
        due("both", x.contract(), 2);
        sayOf(x, "a 0");
        due("nothing", x.contract(), 0);
        due("without choices", new NoWordNo().contract(), 1);
    }

    private static void gap() {
        promise = 19;
        NoWordNo x = with("choice 3;", "a 0|a 1");
        due("beyond", x.gap(1), 2);
        due("all beyond", x.gap(4), 3);
        due("none", x.gap(3), 0);
        due("none", x.gap(7), 0);
        due("no set", x.gap(8), BAD);
        due("no set", x.gap(-1), BAD);
    }

    private static void clause() {
        promise = 20;
        NoWordNo x = with("choice 2;choice 2;choice 2;", "a 1|b 1|c 1", "a 0&b 0|c 1&b 1");
        due("set", x.clause(3, 0), 15);
        due("long", x.clause(3, 1), 1);
        due("keeps all", x.clause(255, 0), 240);
        due("shuts all", x.clause(0, 1), 1);
        due("one world", x.clause(16, 0), 51);
        due("what beyond", x.clause(1, 2), BAD);
        due("what below", x.clause(1, -1), BAD);
        due("no set", x.clause(256, 0), BAD);
        NoWordNo y = with("choice 2;", "a 0", "a 1");
        due("an empty contract takes any, the least first", y.clause(3, 0), 1);
        NoWordNo z = new NoWordNo();
        due("none", z.clause(1, 0), NONE);
        z.word(0);
        due("none", z.clause(1, 1), NONE);
        due("nothing", z.clause(0, 0), 0);
        due("nothing", z.clause(0, 1), 1);
    }

    private static void lost() {
        promise = 21;
        NoWordNo x = with("choice 3;", "a 0|a 1", "a 0|a 2");
        due("one", x.lost(0), 1);
        due("one", x.lost(1), 1);
        due("beyond", x.lost(2), BAD);
        due("below", x.lost(-1), BAD);
        sayOf(x, "a 0");
        due("none", x.lost(0), 0);
        due("none", x.lost(2), 0);
        x.unsay();
        x.unsay();
        due("alone", x.lost(0), 1);
    }

    private static void common() {
        promise = 22;
        NoWordNo x = with("choice 2;choice 2;choice 2;", "a 1|b 1|c 1");
        due("not of the contract", x.common(6, 5, 0), 0);
        due("c 0", x.common(6, 5, 1), 14);
        due("c 1", x.common(6, 5, 7), 240);
        due("all seen", x.common(7, 7, 3), 8);
        due("nothing seen", x.common(0, 7, 3), 254);
        due("one below", x.common(-1, 0, 0), BAD);
        due("one beyond", x.common(8, 0, 0), BAD);
        due("other beyond", x.common(0, 8, 0), BAD);
        due("other below", x.common(0, -1, 0), BAD);
        due("world beyond", x.common(0, 0, 8), BAD);
        due("world below", x.common(0, 0, -1), BAD);
        NoWordNo y = with("choice 3;", "a 0|a 1");
        due("no such choices do nothing", y.common(6, 7, 1), 3);
        due("seen", y.common(7, 7, 1), 2);
    }

    private static void talk() {
        promise = 23;
        NoWordNo x = with("choice 3;choice 3;", "a 0&b 0|a 1&b 0|a 1&b 1|a 2&b 1");
        due("first", x.talk(1, 2, 0), 1);
        due("second", x.talk(1, 2, 1), 2);
        due("second", x.talk(1, 2, 4), 2);
        due("first", x.talk(1, 2, 5), 1);
        due("the other way", x.talk(2, 1, 0), 2);
        due("not of the contract", x.talk(1, 2, 2), STATE);
        due("never", x.talk(0, 0, 0), NONE);
        due("bad is first", x.talk(8, 2, 2), BAD);
        due("bad is first", x.talk(1, -1, 2), BAD);
        due("world beyond", x.talk(1, 2, 9), BAD);
        due("world below", x.talk(1, 2, -1), BAD);
        NoWordNo y = new NoWordNo();
        due("one world", y.talk(0, 0, 0), 1);
        // a chain that each silence shortens by its first world
        NoWordNo z = with("choice 3;choice 3;",
            "a 0&b 0|a 1&b 0|a 1&b 1|a 2&b 1|a 2&b 2");
        due("at the third", z.talk(2, 1, 1), 3);
        due("at the second", z.talk(2, 1, 0), 2);
    }

    private static void silence() {
        promise = 24;
        NoWordNo x = with("choice 3;choice 3;", "a 0&b 0|a 1&b 0|a 1&b 1|a 2&b 1");
        due("none yet", x.silence(1, 2, 0), 51);
        due("first", x.silence(1, 2, 1), 18);
        due("second", x.silence(1, 2, 2), 0);
        due("the most", x.silence(1, 2, 30), 0);
        due("of no use", x.silence(0, 0, 30), 51);
        due("the first one's turn", x.silence(7, 0, 1), 0);
        due("then the other one's", x.silence(0, 7, 1), 51);
        due("then the other one's", x.silence(0, 7, 2), 0);
        NoWordNo z = with("choice 3;choice 3;",
            "a 0&b 0|a 1&b 0|a 1&b 1|a 2&b 1|a 2&b 2");
        due("a chain", z.silence(1, 2, 1), 306);
        due("shorter", z.silence(1, 2, 2), 48);
        due("the first one's turn again", z.silence(1, 2, 3), 0);
        due("k beyond", x.silence(1, 2, 31), BAD);
        due("k below", x.silence(1, 2, -1), BAD);
        due("one beyond", x.silence(8, 2, 0), BAD);
        due("other beyond", x.silence(1, 8, 0), BAD);
    }

    private static void mark() {
        promise = 25;
        NoWordNo x = with("choice 3;", "a 0|a 1|a 2", "a 0|a 1|a 1");
        due("saying", x.mark(0, 1), 3);
        due("offer", x.mark(1, 1), 5);
        due("clause", x.mark(2, 1), 6);
        due("vow", x.mark(3, 1), 7);
        due("question", x.mark(4, 1), 4);
        due("shrug", x.mark(5, 1), 5);
        due("question of the first", x.mark(4, 0), 6);
        due("kind beyond", x.mark(6, 0), NO);
        due("kind below", x.mark(-1, 0), NO);
        due("k beyond", x.mark(0, 2), NO);
        due("k below", x.mark(0, -1), NO);
        NoWordNo y = new NoWordNo();
        y.word(1);
        sayOf(y, "w 0|w 0");
        due("shrug by the word", y.mark(5, 0), 3);
        y.unword();
        due("shrug of none", y.mark(5, 0), 2);
    }

    private static void keep() {
        promise = 26;
        NoWordNo x = with("choice 2;", "a 0");
        due("one", x.keep(0), 1);
        x.unsay();
        due("none", x.keep(1), 0);
        due("first", x.back(0), 1);
        due("second", x.back(1), 0);
        due("again", x.keep(0), 0);
        due("the new one", x.back(0), 0);
        due("beyond", x.keep(2), BAD);
        due("below", x.keep(-1), BAD);
    }

    private static void back() {
        promise = 27;
        NoWordNo x = with("choice 3;", "a 0|a 1", "a 2");
        x.word(6);
        due("none kept", x.back(0), STATE);
        due("keep", x.keep(0), 2);
        due("the other one", x.back(1), STATE);
        x.unsay();
        x.unword();
        sayOf(x, "a 1&a 1&a 1");
        x.word(7);
        x.word(3);
        typeAll(x, "a 0");
        x.mark(0, 0);
        due("back", x.back(0), 2);
        due("saying", x.saying(1, 0), 4);
        due("signs", x.saying(1, 1), 1);
        due("words", x.count(3), 1);
        due("the word", x.shortest(6), 1);
        due("not the later ones", x.shortest(7), 2);
        due("text stays", x.count(4), 3);
        due("trace stays", x.trace(), 1);
        x.unsay();
        due("an image is a copy", x.back(0), 2);
        due("beyond", x.back(2), BAD);
        due("below", x.back(-1), BAD);
    }

    private static void count() {
        promise = 28;
        NoWordNo x = with("choice 2;choice 3;", "a 0");
        x.word(1);
        x.word(2);
        typeAll(x, "abcd");
        due("choices", x.count(0), 2);
        due("worlds", x.count(1), 6);
        due("sayings", x.count(2), 1);
        due("words", x.count(3), 2);
        due("bytes", x.count(4), 4);
        due("beyond", x.count(5), BAD);
        due("below", x.count(-1), BAD);
    }

    private static void trace() {
        promise = 29;
        NoWordNo x = with("choice 3;", "a 0|a 1");
        int[] added = {1, 11, 101, 1101, 10011, 100001};
        long all = 0;
        for (int kind = 0; kind < added.length; kind++) {
            x.mark(kind, 0);
            all += added[kind];
            due("kind " + kind, x.trace(), all);
        }
        x.mark(6, 0);
        x.mark(3, 1);
        x.lost(0);
        x.shortest(1);
        due("refused adds nothing", x.trace(), all);
        x.unsay();
        x.clear();
        tongueOf(x, "choice 2;");
        due("a new tongue leaves it", x.trace(), all);
    }
}
