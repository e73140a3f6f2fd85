/** The edges that the document names of two who SEE some CHOICES each: IN COMMON, TALK and SILENCE. */
public final class BoundaryTalkTest {
    private static final int BAD = Calls.BAD, STATE = Calls.STATE, NONE = Calls.NONE;
    private static final int LOWEST = Integer.MIN_VALUE, HIGHEST = Integer.MAX_VALUE;
    private static final int[] NO_SIGHT = {LOWEST, -8, -7, -1, 8, 9, 15, 16, 256, 1 << 16, HIGHEST};
    private static final int[] NO_TURNS = {LOWEST, -31, -2, -1, 31, 32, 60, 256, 65536, HIGHEST};
    private static final int[][] TONGUES = {{}, {2}, {9}, {2, 2}, {2, 3}, {3, 2}, {3, 3}, {2, 4}, {4, 2}, {2, 2, 2}};
    /** Five WORLDS of nine: each silence takes the one at an end of the row. */
    private static final String STAIRS = "a 0&b 0|a 1&b 0|a 1&b 1|a 2&b 1|a 2&b 2";

    public static void main(String[] args) {
        whatTheySee();
        worlds();
        choicesThatAreNot();
        allAndNothingSeen();
        ofTheContractAlone();
        noneIfNotOfTheContract();
        emptyContract();
        talkState();
        talkTurns();
        talkNone();
        byTurns();
        silenceTurns();
        withoutChoices();
        badAheadOfState();
        Checks.end();
    }

    private static void whatTheySee() {
        Checks.says("0 .. 7 each: what they SEE. BAD");
        for (int[] values : TONGUES) {
            NoWordNo x = Calls.with(Calls.tongueOf(values));
            for (int see : NO_SIGHT) {
                Checks.due("common", x.common(see, 0, 0), BAD);
                Checks.due("common", x.common(0, see, 0), BAD);
                Checks.due("talk", x.talk(see, 0, 0), BAD);
                Checks.due("talk", x.talk(0, see, 0), BAD);
                Checks.due("silence", x.silence(see, 0, 0), BAD);
                Checks.due("silence", x.silence(0, see, 0), BAD);
            }
            for (int one = 0; one <= 7; one++) {
                for (int other : new int[] {0, 7, one, 7 - one}) {
                    Checks.due("common has WORLD 0", x.common(one, other, 0) & 1, 1);
                    Checks.due("all at first", x.silence(one, other, 0), Calls.all(x));
                    Checks.due("talk is let in", x.talk(one, other, 0) == BAD ? 1 : 0, 0);
                }
            }
        }
    }

    private static void worlds() {
        Checks.says("common, talk: BAD (a WORLD that is none)");
        for (int[] values : TONGUES) {
            NoWordNo x = Calls.with(Calls.tongueOf(values));
            int worlds = x.count(1);
            for (int world : new int[] {LOWEST, -2, -1, worlds, worlds + 1, 9, 10, 31, 32, 33, 64, HIGHEST}) {
                Checks.due("common in " + world, x.common(7, 7, world), BAD);
                Checks.due("talk in " + world, x.talk(7, 7, world), BAD);
            }
            for (int world = 0; world < worlds; world++) {
                Checks.due("common in " + world, x.common(7, 7, world), 1 << world);
                Checks.due("talk in " + world, x.talk(7, 7, world), 1);
            }
        }
    }

    private static void choicesThatAreNot() {
        Checks.says("CHOICES that there are not do nothing");
        for (int[] values : TONGUES) {
            int there = (1 << values.length) - 1;
            for (int one = 0; one <= 7; one++) {
                NoWordNo x = Calls.with(Calls.tongueOf(values));
                for (int other = 0; other <= 7; other++) {
                    int last = x.count(1) - 1;
                    String seen = Calls.tongueOf(values) + one + ", " + other;
                    Checks.due("common " + seen, x.common(one, other, last), x.common(one & there, other & there, last));
                    Checks.due("talk " + seen, x.talk(one, other, 0), x.talk(one & there, other & there, 0));
                    for (int k = 0; k <= 2; k++) {
                        Checks.due("silence " + seen, x.silence(one, other, k), x.silence(one & there, other & there, k));
                    }
                }
            }
        }
    }

    private static void allAndNothingSeen() {
        Checks.says("Two SEE some CHOICES each (bits): each step to a WORLD that for that one looks alike");
        NoWordNo x = Calls.with("choice 2;choice 2;choice 2;");
        int[] aloneWith = {255, 0b01010101, 0b00110011, 0b00010001, 0b00001111, 0b00000101, 0b00000011, 1};
        for (int one = 0; one <= 7; one++) {
            Checks.due("one sees " + one, x.common(one, 7, 0), aloneWith[one]);
            Checks.due("the other sees " + one, x.common(7, one, 0), aloneWith[one]);
            Checks.due("both see " + one, x.common(one, one, 0), aloneWith[one]);
            Checks.due("one sees nothing", x.common(0, one, 0), 255);
            Checks.due("the other sees nothing", x.common(one, 0, 0), 255);
        }
    }

    private static void ofTheContractAlone() {
        Checks.says("IN COMMON: .. all WORLDS that come by steps .. (of THE CONTRACT, which both heard, alone");
        NoWordNo x = Calls.with("choice 2;choice 2;", "a 0&b 0|a 1&b 1");
        Checks.due("no step", x.common(1, 2, 0), 1);
        Checks.due("no step", x.common(1, 2, 3), 8);
        NoWordNo y = Calls.with("choice 2;choice 2;");
        Checks.due("two steps", y.common(1, 2, 0), 15);
        Checks.due("one step", y.common(1, 3, 0), 5);
        NoWordNo z = Calls.with("choice 3;choice 3;", STAIRS);
        for (int world : new int[] {0, 1, 4, 5, 8}) {
            Checks.due("up to four steps", z.common(1, 2, world), 0b100110011);
            Checks.due("up to four steps", z.common(2, 1, world), 0b100110011);
        }
        Calls.say(z, "a 0|a 2|b 0");
        Checks.due("the row is cut", z.common(1, 2, 0), 0b000000011);
        Checks.due("the row is cut", z.common(1, 2, 8), 0b100100000);
    }

    private static void noneIfNotOfTheContract() {
        Checks.says("the WORLD itself, too, if it is of it; else none");
        NoWordNo x = Calls.with("choice 9;", "a 0|a 4|a 8");
        for (int world = 0; world < 9; world++) {
            boolean of = world % 4 == 0;
            Checks.due("all seen", x.common(1, 1, world), of ? 1 << world : 0);
            Checks.due("nothing seen", x.common(0, 0, world), of ? 0b100010001 : 0);
        }
    }

    private static void emptyContract() {
        Checks.says("a CONTRACT that LEAVES nothing");
        NoWordNo x = Calls.with("choice 2;", "a 0&a 1");
        for (int world = 0; world < 2; world++) {
            Checks.due("common", x.common(0, 0, world), 0);
            Checks.due("talk", x.talk(1, 1, world), STATE);
        }
        Checks.due("silence", x.silence(0, 0, 0), 0);
        Checks.due("silence", x.silence(1, 1, 30), 0);
    }

    private static void talkState() {
        Checks.says("talk: STATE: the WORLD is not of THE CONTRACT");
        NoWordNo x = Calls.with("choice 9;", "a 0|a 4|a 8");
        for (int world = 0; world < 9; world++) {
            Checks.due("WORLD " + world, x.talk(1, 0, world), world % 4 == 0 ? 1 : STATE);
            Checks.due("WORLD " + world, x.talk(0, 1, world), world % 4 == 0 ? 2 : STATE);
            Checks.due("WORLD " + world, x.talk(0, 0, world), world % 4 == 0 ? NONE : STATE);
        }
        x.unsay();
        Checks.due("all are of it", x.talk(1, 0, 1), 1);
    }

    private static void talkTurns() {
        Checks.says("At which turn somebody speaks (1 .. 30)");
        NoWordNo x = Calls.with("choice 3;choice 3;", STAIRS);
        // one sees a: WORLD 0 is known at once, and from the other end WORLD 8 at the second turn
        int[] first = {1, 2, STATE, STATE, 3, 3, STATE, STATE, 2};
        int[] second = {2, 3, STATE, STATE, 3, 2, STATE, STATE, 1};
        for (int world = 0; world < 9; world++) {
            Checks.due("a first, in " + world, x.talk(1, 2, world), first[world]);
            Checks.due("b first, in " + world, x.talk(2, 1, world), second[world]);
        }
        NoWordNo y = new NoWordNo();
        Checks.due("one WORLD is known at the first turn", y.talk(0, 0, 0), 1);
        NoWordNo z = Calls.with("choice 2;", "a 1");
        Checks.due("the only WORLD left, too", z.talk(0, 0, 1), 1);
    }

    private static void talkNone() {
        Checks.says("NONE: nobody does");
        NoWordNo x = Calls.with("choice 2;choice 2;");
        for (int world = 0; world < 4; world++) {
            Checks.due("nothing seen", x.talk(0, 0, world), NONE);
            Checks.due("one each", x.talk(1, 2, world), NONE);
            Checks.due("the same", x.talk(1, 1, world), NONE);
            Checks.due("one sees all", x.talk(3, 0, world), 1);
            Checks.due("the other sees all", x.talk(0, 3, world), 2);
        }
    }

    private static void byTurns() {
        Checks.says("TALK: the first one, then the other one, by turns");
        NoWordNo x = Calls.with("choice 9;");
        Checks.due("the first turn", x.silence(1, 0, 1), 0);
        Checks.due("not the other one's", x.silence(0, 1, 1), 511);
        Checks.due("the second turn", x.silence(0, 1, 2), 0);
        NoWordNo y = Calls.with("choice 3;choice 3;", STAIRS);
        int[] left = {0b100110011, 0b100110010, 0b000110000, 0, 0};
        for (int k = 0; k < left.length; k++) {
            Checks.due("behind " + k, y.silence(1, 2, k), left[k]);
        }
    }

    private static void silenceTurns() {
        Checks.says("SILENCE: the WORLDS that are left for both behind k turns (0 .. 30) of silence");
        NoWordNo x = Calls.with("choice 2;choice 2;", "a 0|b 0");
        for (int k : NO_TURNS) {
            Checks.due("k = " + k, x.silence(0, 0, k), BAD);
        }
        for (int k = 0; k <= 30; k++) {
            Checks.due("nothing seen, k = " + k, x.silence(0, 0, k), 7);
            // a sees WORLD 1 at once; of WORLDS 0 and 2 b knows each then
            Checks.due("one each, k = " + k, x.silence(1, 2, k), k == 0 ? 7 : k == 1 ? 5 : 0);
            Checks.due("the other sees all, k = " + k, x.silence(0, 3, k), k <= 1 ? 7 : 0);
        }
    }

    private static void withoutChoices() {
        Checks.says("two who see, without CHOICES");
        NoWordNo x = new NoWordNo();
        for (int see = 0; see <= 7; see++) {
            Checks.due("common", x.common(see, 7 - see, 0), 1);
            Checks.due("talk", x.talk(see, 7 - see, 0), 1);
            Checks.due("silence", x.silence(see, 7 - see, 0), 1);
            Checks.due("silence", x.silence(see, 7 - see, 1), 0);
        }
        x.word(0);
        Calls.say(x, "w 0");
        Checks.due("not of the CONTRACT", x.common(0, 0, 0), 0);
        Checks.due("not of the CONTRACT", x.talk(0, 0, 0), STATE);
        Checks.due("nothing left", x.silence(0, 0, 0), 0);
    }

    private static void badAheadOfState() {
        Checks.says("Refused, the first of these: BAD, STATE");
        NoWordNo x = Calls.with("choice 2;", "a 0");
        Checks.due("STATE alone", x.talk(0, 0, 1), STATE);
        Checks.due("one", x.talk(8, 0, 1), BAD);
        Checks.due("one", x.talk(-1, 0, 1), BAD);
        Checks.due("other", x.talk(0, 8, 1), BAD);
        Checks.due("other", x.talk(0, -1, 1), BAD);
        Checks.due("a WORLD that is none", x.talk(0, 0, 2), BAD);
    }
}
