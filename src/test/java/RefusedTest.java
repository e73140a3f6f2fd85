import java.util.ArrayList;
import java.util.Arrays;
import java.util.List;

/**
 * Where a call is refused, nothing changes: in several states each refused call is made on an object of its own,
 * and every answer that can be asked for is then compared with that of an object on which it was not made.
 * An object is asked 512 calls at most, so the questions are asked of as many objects as it takes.
 */
public final class RefusedTest {
    private static final int BAD = Calls.BAD, STATE = Calls.STATE, FULL = Calls.FULL, NONE = Calls.NONE;
    private static final int NO = Calls.NO;
    private static final int LOWEST = Integer.MIN_VALUE, HIGHEST = Integer.MAX_VALUE;
    /** Questions asked of one object; what makes a state takes fewer calls than are left. */
    private static final int ASKED = 360;

    /** A call that answers something. */
    private interface Call {
        long on(NoWordNo x);
    }

    /** Calls that change an object, and what they answer. */
    private interface Talk {
        void on(NoWordNo x, List<Long> told);
    }

    private interface Making {
        NoWordNo make();
    }

    private record Refused(String name, Call call, long due) {
    }

    private static final List<Refused> REFUSED = new ArrayList<>();

    public static void main(String[] args) {
        Checks.says("Refused, and nothing changes");
        inState("a new object", RefusedTest::isNew);
        inState("without CHOICES", RefusedTest::withoutChoices);
        inState("some of all", RefusedTest::someOfAll);
        inState("all that there may be", RefusedTest::allFull);
        inState("little room, and a FAULT", RefusedTest::littleRoom);
        inState("no SAYINGS", RefusedTest::noSayings);
        inState("an empty CONTRACT", RefusedTest::emptyContract);
        Checks.end();
    }

    // ---- the states

    private static NoWordNo isNew() {
        return new NoWordNo();
    }

    private static NoWordNo withoutChoices() {
        NoWordNo x = Calls.withWords("", 1);
        Calls.say(x, "w 0|w 0");
        x.keep(1);
        x.word(0);
        x.mark(5, 0);
        Calls.type(x, "w 1 | w 0");
        return x;
    }

    private static NoWordNo someOfAll() {
        NoWordNo x = Calls.withWords("choice 2;choice 3;", 0b100001);
        Calls.say(x, "a 0|b 1");
        Calls.say(x, "w 0|a 1&b 2|b 0");
        x.keep(0);
        x.unsay();
        x.word(7);
        Calls.say(x, "w 1|b 1");
        x.mark(4, 1);
        x.mark(3, 0);
        Calls.type(x, "b 2|a 0&w 1");
        return x;
    }

    private static NoWordNo allFull() {
        NoWordNo x = Calls.withWords("choice 2;choice 2;choice 2;", 0b10010110);
        String[] sayings = {"a 0|b 1", "w 0|c 0", "b 1|c 1", "a 0|c 0", "a 0|b 1", "w 0|a 0|b 0"};
        for (String s : sayings) {
            Calls.say(x, s);
        }
        x.keep(0);
        x.word(0b11101000);
        x.word(254);
        Calls.say(x, "w 1|w 0|a 0");
        Calls.say(x, "w 2");
        x.keep(1);
        for (int kind = 0; kind <= 5; kind++) {
            x.mark(kind, kind);
        }
        Calls.type(x, "a0|".repeat(66) + "b0");
        return x;
    }

    private static NoWordNo littleRoom() {
        NoWordNo x = Calls.with("choice 2;choice 2;", "a 0|b 0");
        x.keep(1);
        x.word(6);
        Calls.type(x, "a 0|" + Calls.blanks(183) + "(b 0|a 2");
        return x;
    }

    private static NoWordNo noSayings() {
        NoWordNo x = Calls.withWords("choice 5;", 3, 28);
        Calls.say(x, "w 1");
        x.keep(0);
        x.mark(2, 0);
        x.unsay();
        Calls.type(x, "w 0|a 0");
        return x;
    }

    private static NoWordNo emptyContract() {
        NoWordNo x = Calls.with("choice 4;", "a 0|a 1", "a 2|a 3|a 3");
        x.mark(1, 1);
        Calls.type(x, "choice 2;choice 5;");
        return x;
    }

    // ---- what is refused

    private static void refuse(String name, Call call, long due) {
        REFUSED.add(new Refused(name, call, due));
    }

    private static void inState(String name, Making making) {
        REFUSED.clear();
        int worlds = making.make().count(1);
        refuseTexts(making);
        for (int set : new int[] {-1, 1 << worlds, LOWEST, HIGHEST}) {
            refuseSet(set);
        }
        refuseSayings(making.make().count(2));
        refuseWorlds(making.make());
        refuseWhats(making.make().count(0));
        refuseSights();
        refuseNone(making.make());
        compareAll(name, making);
    }

    private static void refuseTexts(Making making) {
        for (int n : new int[] {LOWEST, -1, 0, 9, HIGHEST}) {
            refuse("type(.., " + n + ")", x -> x.type(0x6120307c61203031L, n), BAD);
        }
        for (int n = Calls.MOST_BYTES - making.make().count(4) + 1; n <= 8; n++) {
            int bytes = n;
            refuse("type(.., " + n + ")", x -> x.type(0x6120307c61203031L, bytes), FULL);
        }
        long tongue = making.make().tongue();
        if (tongue < 0) {
            refuse("tongue()", NoWordNo::tongue, tongue);
        }
        long say = making.make().say();
        if (say < 0) {
            refuse("say()", NoWordNo::say, making.make().count(2) == 8 ? FULL : say);
        }
        if (making.make().count(2) == 0) {
            refuse("unsay()", NoWordNo::unsay, STATE);
        }
        if (making.make().count(3) == 3) {
            refuse("word(0)", x -> x.word(0), FULL);
            refuse("word(1)", x -> x.word(1), FULL);
            refuse("saves(0)", x -> x.saves(0), FULL);
            refuse("saves(1)", x -> x.saves(1), FULL);
        }
    }

    private static void refuseSet(int set) {
        refuse("word(" + set + ")", x -> x.word(set), BAD);
        refuse("shortest(" + set + ")", x -> x.shortest(set), BAD);
        refuse("made(" + set + ", 0)", x -> x.made(set, 0), BAD);
        refuse("terms(" + set + ", 0)", x -> x.terms(set, 0), BAD);
        refuse("refusal(" + set + ")", x -> x.refusal(set), BAD);
        refuse("gap(" + set + ")", x -> x.gap(set), BAD);
        refuse("clause(" + set + ", 0)", x -> x.clause(set, 0), BAD);
    }

    private static void refuseSayings(int sayings) {
        for (int k : new int[] {-1, sayings, LOWEST, HIGHEST}) {
            refuse("saying(" + k + ", 0)", x -> x.saying(k, 0), BAD);
            refuse("alike(" + k + ", 0)", x -> x.alike(k, 0), BAD);
            refuse("alike(0, " + k + ")", x -> x.alike(0, k), BAD);
            refuse("lost(" + k + ")", x -> x.lost(k), BAD);
            for (int kind = 0; kind <= 5; kind++) {
                int asked = kind;
                refuse("mark(" + kind + ", " + k + ")", x -> x.mark(asked, k), NO);
            }
        }
    }

    private static void refuseWorlds(NoWordNo made) {
        int worlds = made.count(1);
        int contract = made.contract();
        for (int world : new int[] {-1, worlds, LOWEST, HIGHEST}) {
            refuse("value(" + world + ", 0)", x -> x.value(world, 0), BAD);
            refuse("common(1, 2, " + world + ")", x -> x.common(1, 2, world), BAD);
            refuse("talk(1, 2, " + world + ")", x -> x.talk(1, 2, world), BAD);
        }
        for (int w = 0; w < worlds; w++) {
            int world = w;
            if ((contract >> w & 1) == 0) {
                refuse("talk(1, 2, " + w + ")", x -> x.talk(1, 2, world), STATE);
            }
        }
    }

    private static void refuseWhats(int choices) {
        for (int what : new int[] {-1, 6, LOWEST, HIGHEST}) {
            refuse("value(0, " + what + ")", x -> x.value(0, what), BAD);
            refuse("saying(0, " + what + ")", x -> x.saying(0, what), BAD);
            refuse("made(0, " + what + ")", x -> x.made(0, what), BAD);
            refuse("worst(" + what + ")", x -> x.worst(what), BAD);
            refuse("saves(" + what + ")", x -> x.saves(what), BAD);
            refuse("clause(0, " + what + ")", x -> x.clause(0, what), BAD);
            refuse("mark(" + what + ", 0)", x -> x.mark(what, 0), NO);
            refuse("keep(" + what + ")", x -> x.keep(what), BAD);
            refuse("back(" + what + ")", x -> x.back(what), BAD);
            refuse("count(" + what + ")", x -> x.count(what), BAD);
        }
        for (int i : new int[] {-2, 1, LOWEST, HIGHEST}) {
            refuse("terms(0, " + i + ")", x -> x.terms(0, i), BAD);
        }
        refuse("value(0, " + choices + ")", x -> x.value(0, choices), BAD);
        refuse("saying(0, 2)", x -> x.saying(0, 2), BAD);
        refuse("made(0, 3)", x -> x.made(0, 3), BAD);
        refuse("worst(2)", x -> x.worst(2), BAD);
        refuse("saves(2)", x -> x.saves(2), BAD);
        refuse("clause(0, 2)", x -> x.clause(0, 2), BAD);
        refuse("keep(2)", x -> x.keep(2), BAD);
        refuse("back(2)", x -> x.back(2), BAD);
        refuse("count(5)", x -> x.count(5), BAD);
    }

    private static void refuseSights() {
        for (int see : new int[] {-1, 8, LOWEST, HIGHEST}) {
            refuse("common(" + see + ", 0, 0)", x -> x.common(see, 0, 0), BAD);
            refuse("common(0, " + see + ", 0)", x -> x.common(0, see, 0), BAD);
            refuse("talk(" + see + ", 0, 0)", x -> x.talk(see, 0, 0), BAD);
            refuse("talk(0, " + see + ", 0)", x -> x.talk(0, see, 0), BAD);
            refuse("silence(" + see + ", 0, 0)", x -> x.silence(see, 0, 0), BAD);
            refuse("silence(0, " + see + ", 0)", x -> x.silence(0, see, 0), BAD);
        }
        for (int k : new int[] {-1, 31, LOWEST, HIGHEST}) {
            refuse("silence(1, 2, " + k + ")", x -> x.silence(1, 2, k), BAD);
        }
    }

    /** IMAGES that were not kept; and NONE changes nothing, either. */
    private static void refuseNone(NoWordNo made) {
        for (int i = 0; i <= 1; i++) {
            int image = i;
            if (made.back(i) == STATE) {
                refuse("back(" + i + ")", x -> x.back(image), STATE);
            }
        }
        if (made.count(0) == 0) {
            refuse("worst(0)", x -> x.worst(0), NONE);
            refuse("worst(1)", x -> x.worst(1), NONE);
        }
        if (made.count(0) == 0 && made.count(3) == 0) {
            refuse("saves(0)", x -> x.saves(0), NONE);
            refuse("shortest(0)", x -> x.shortest(0), NONE);
            refuse("made(0, 0)", x -> x.made(0, 0), NONE);
            refuse("refusal(0)", x -> x.refusal(0), NONE);
            refuse("clause(0, 0)", x -> x.clause(0, 0), NONE);
        }
    }

    // ---- what can be asked

    private static void compareAll(String name, Making making) {
        List<Call> questions = questions(making.make());
        long[] before = answers(making, null, questions);
        List<List<Long>> toldBefore = tellAll(making, null, false);
        List<List<Long>> warmBefore = tellAll(making, null, true);
        for (Refused refused : REFUSED) {
            String what = "in the state '" + name + "' " + refused.name();
            Checks.due(what, refused.call().on(making.make()), refused.due());
            long[] after = answers(making, refused.call(), questions);
            Checks.due(what + ": the first answer that is another", Arrays.mismatch(before, after), -1);
            List<List<Long>> told = tellAll(making, refused.call(), false);
            List<List<Long>> warm = tellAll(making, refused.call(), true);
            for (int t = 0; t < told.size(); t++) {
                Checks.due(what + ": calls " + t + " answer as before", told.get(t).equals(toldBefore.get(t)) ? 1 : 0, 1);
                Checks.due(what + ": calls " + t + " asked before", warm.get(t).equals(warmBefore.get(t)) ? 1 : 0, 1);
            }
        }
    }

    /** The answers to all questions, behind one refused call (or none) on each object. */
    private static long[] answers(Making making, Call refused, List<Call> questions) {
        long[] all = new long[questions.size()];
        NoWordNo x = null;
        for (int i = 0; i < all.length; i++) {
            if (i % ASKED == 0) {
                x = making.make();
                warm(x);
                if (refused != null) {
                    refused.on(x);
                }
            }
            all[i] = questions.get(i).on(x);
        }
        return all;
    }

    /** Has lengths be measured ahead of a refused call. */
    private static void warm(NoWordNo x) {
        x.shortest(0);
        x.saves(0);
        x.worst(0);
        x.made(1, 0);
    }

    private static List<List<Long>> tellAll(Making making, Call refused, boolean warm) {
        List<Talk> talks = List.of(RefusedTest::textAsSaying, RefusedTest::textAsTongue, RefusedTest::roomOfText,
            RefusedTest::sayings, RefusedTest::words, RefusedTest::images, RefusedTest::marks, RefusedTest::keeps);
        List<List<Long>> all = new ArrayList<>();
        for (Talk talk : talks) {
            NoWordNo x = making.make();
            if (warm) {
                warm(x);
            }
            if (refused != null) {
                refused.on(x);
            }
            List<Long> told = new ArrayList<>();
            talk.on(x, told);
            all.add(told);
        }
        return all;
    }

    /** Questions that change nothing themselves, in and out of their bounds. */
    private static List<Call> questions(NoWordNo made) {
        List<Call> all = new ArrayList<>();
        for (int i = -1; i <= 5; i++) {
            int what = i;
            all.add(x -> x.count(what));
            all.add(x -> x.worst(what));
            all.add(x -> x.saves(what));
        }
        all.add(NoWordNo::trace);
        all.add(NoWordNo::contract);
        addSayings(all, made.count(2));
        addSets(all, 1 << made.count(1));
        addWorlds(all, made.count(1));
        return all;
    }

    private static void addSayings(List<Call> all, int sayings) {
        for (int i = -1; i <= sayings; i++) {
            int k = i;
            all.add(x -> x.lost(k));
            all.add(x -> x.saying(k, 0));
            all.add(x -> x.saying(k, 1));
            for (int j = -1; j <= sayings; j++) {
                int l = j;
                all.add(x -> x.alike(k, l));
            }
        }
    }

    private static void addSets(List<Call> all, int sets) {
        for (int s = -1; s <= sets; s++) {
            int set = s;
            all.add(x -> x.shortest(set));
            all.add(x -> x.refusal(set));
            all.add(x -> x.gap(set));
            for (int i = -1; i <= 3; i++) {
                int what = i;
                all.add(x -> x.terms(set, what));
                all.add(x -> x.made(set, what));
                all.add(x -> x.clause(set, what));
            }
        }
    }

    private static void addWorlds(List<Call> all, int worlds) {
        for (int w = -1; w <= worlds; w++) {
            int world = w;
            for (int c = -1; c <= 3; c++) {
                int choice = c;
                all.add(x -> x.value(world, choice));
            }
        }
        for (int i = 0; i <= 7; i++) {
            for (int j = 0; j <= 7; j++) {
                int one = i;
                int other = j;
                for (int w = 0; w < worlds; w++) {
                    int world = w;
                    all.add(x -> x.common(one, other, world));
                    all.add(x -> x.talk(one, other, world));
                }
                for (int n = 0; n <= 4; n++) {
                    int k = n;
                    all.add(x -> x.silence(one, other, k));
                }
                all.add(x -> x.silence(one, other, 30));
            }
        }
    }

    // ---- what can be asked by calls that change something

    private static void textAsSaying(NoWordNo x, List<Long> told) {
        told.add((long) x.say());
        told.add((long) x.unsay());
        told.add((long) x.say());
        int last = x.count(2) - 1;
        told.add((long) x.saying(last, 0));
        told.add((long) x.saying(last, 1));
        told.add((long) x.contract());
        told.add((long) x.clear());
    }

    private static void textAsTongue(NoWordNo x, List<Long> told) {
        told.add((long) x.tongue());
        for (int what = 0; what <= 4; what++) {
            told.add((long) x.count(what));
        }
        told.add((long) x.unsay());
        told.add((long) x.say());
        told.add((long) x.clear());
        told.add((long) x.back(0));
        told.add((long) x.back(1));
    }

    private static void roomOfText(NoWordNo x, List<Long> told) {
        for (int n = 8; n >= 1; n -= 7) {
            for (int i = 0; i < 27; i++) {
                told.add((long) x.type(0x2020202020202020L, n));
            }
        }
        told.add((long) x.say());
        told.add((long) x.clear());
    }

    private static void sayings(NoWordNo x, List<Long> told) {
        told.add((long) x.clear());
        Calls.say(x, "w 0");
        for (int i = 0; i < 9; i++) {
            tellSayings(x, told);
            told.add((long) x.unsay());
        }
    }

    private static void tellSayings(NoWordNo x, List<Long> told) {
        told.add((long) x.count(2));
        told.add((long) x.contract());
        for (int k = 0; k < x.count(2); k++) {
            told.add((long) x.saying(k, 0));
            told.add((long) x.saying(k, 1));
            told.add((long) x.lost(k));
        }
    }

    private static void words(NoWordNo x, List<Long> told) {
        tellWords(x, told);
        for (int i = 0; i < 4; i++) {
            told.add((long) x.word(1));
            told.add((long) x.shortest(1));
            told.add((long) x.saves(1));
        }
        told.add((long) x.unword());
        told.add((long) x.shortest(1));
        told.add((long) x.saves(1));
    }

    /** What each WORD is, by a SAYING of it. */
    private static void tellWords(NoWordNo x, List<Long> told) {
        told.add((long) x.count(3));
        x.clear();
        for (int i = 0; i < 3; i++) {
            told.add((long) x.unsay());
            told.add((long) Calls.say(x, "w " + i));
            told.add((long) x.saying(x.count(2) - 1, 0));
            x.clear();
        }
    }

    private static void images(NoWordNo x, List<Long> told) {
        for (int image = 0; image <= 1; image++) {
            told.add((long) x.back(image));
            tellSayings(x, told);
            told.add((long) x.shortest(1));
            told.add((long) x.shortest(0));
            told.add((long) x.saves(1));
            told.add((long) x.clear());
            tellWords(x, told);
        }
    }

    private static void marks(NoWordNo x, List<Long> told) {
        for (int kind = 0; kind <= 5; kind++) {
            for (int k = 0; k < x.count(2); k++) {
                told.add((long) x.mark(kind, k));
                told.add(x.trace());
            }
        }
    }

    private static void keeps(NoWordNo x, List<Long> told) {
        for (int image = 0; image <= 1; image++) {
            told.add((long) x.keep(image));
            told.add((long) x.unsay());
            told.add((long) x.unword());
        }
        images(x, told);
    }
}
