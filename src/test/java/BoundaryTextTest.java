import java.util.ArrayList;
import java.util.List;
import java.util.function.Supplier;

/** The edges that the document names of THE TEXT, its bytes, its TOKENS, and where a FAULT is. */
public final class BoundaryTextTest {
    private static final int BAD = Calls.BAD, FULL = Calls.FULL;
    private static final int MOST = Calls.MOST_BYTES;
    private static final int LOWEST = Integer.MIN_VALUE, HIGHEST = Integer.MAX_VALUE;

    public static void main(String[] args) {
        typeHowMany();
        typeWhichBytes();
        typeEveryByte();
        typeFull();
        clear();
        wholeTexts();
        textIsGoneWhenRead();
        blanks();
        onlyThatBlank();
        noBlanksNeeded();
        wordsOfLetters();
        everyByteOfATongue();
        everyByteOfASaying();
        numbers();
        endsTooEarly();
        emptySaying();
        firstFault();
        brackets();
        signs();
        everyRowOfTokens();
        Checks.end();
    }

    private static void typeHowMany() {
        Checks.says("type: the lowest n (1 .. 8) bytes of v .. how many it has. BAD");
        for (int n : new int[] {LOWEST, -200, -8, -1, 0, 9, 10, 16, 64, 200, 256, 257, HIGHEST}) {
            NoWordNo x = new NoWordNo();
            Checks.due("n = " + n, x.type('a', n), BAD);
            Checks.due("bytes behind n = " + n, x.count(4), 0);
        }
        NoWordNo x = new NoWordNo();
        int bytes = 0;
        for (int n = 1; n <= 8; n++) {
            bytes += n;
            Checks.due("n = " + n, x.type(0, n), bytes);
            Checks.due("bytes behind n = " + n, x.count(4), bytes);
        }
    }

    private static void typeWhichBytes() {
        Checks.says("type: the lowest n bytes of v, the highest of them first, come to THE TEXT");
        String text = "( b  0 )";
        for (int n = 1; n <= 8; n++) {
            for (long above : new long[] {0, -1L, 0x7777777777777777L, Long.MIN_VALUE, Long.MAX_VALUE}) {
                NoWordNo x = Calls.with("choice 2;choice 2;");
                Calls.type(x, text.substring(0, 8 - n));
                long v = n == 8 ? 0 : above << 8 * n;
                for (int i = 8 - n; i < 8; i++) {
                    v |= (long) text.charAt(i) << 8 * (7 - i);
                }
                Checks.due("the last " + n, x.type(v, n), 8);
                Checks.due("read", x.say(), 1);
                Checks.due("left", x.saying(0, 0), 3);
            }
        }
        NoWordNo x = Calls.with("choice 2;");
        Checks.due("backward", x.type('0' << 8 | 'a', 2), 2);
        Checks.due("the highest first", x.say(), -10);
    }

    private static void typeEveryByte() {
        Checks.says("THE TONGUE is a text .. read byte by byte");
        for (int b = 0; b < 256; b++) {
            NoWordNo x = Calls.with("choice 2;");
            Checks.due("byte " + b, x.type(b, 1), 1);
            Checks.due("byte " + b, x.type((b << 24 >> 24) - 256L, 1), 2);
            Checks.due("bytes of " + b, x.clear(), 2);
            // of all bytes but the blank a byte and its like by 128 are two
            x.type((long) b ^ 128, 1);
            boolean ends = (b ^ 128) == ' ' || (b ^ 128) == 'a' || (b ^ 128) == 'w' || (b ^ 128) == '(';
            Checks.due("byte " + (b ^ 128), x.say(), ends ? -11 : -10);
        }
    }

    private static void typeFull() {
        Checks.says("THE TONGUE is a text (200 bytes at most); type: FULL: not all n have room (none comes)");
        for (int n = 1; n <= 8; n++) {
            for (int had = 185; had <= MOST; had++) {
                NoWordNo x = new NoWordNo();
                Calls.type(x, Calls.blanks(had));
                int want = had + n <= MOST ? had + n : FULL;
                Checks.due(n + " behind " + had, x.type(0, n), want);
                Checks.due("bytes", x.count(4), want == FULL ? had : had + n);
            }
        }
        Checks.says("type: FULL: not all n have room (none comes)");
        NoWordNo x = Calls.with("choice 2;");
        Calls.type(x, "a" + Calls.blanks(197) + "0");
        Checks.due("two", x.type('|' << 8 | 'a', 2), FULL);
        Checks.due("read without them", x.say(), 1);
        Checks.says("type: BAD ahead of FULL");
        Calls.type(x, Calls.blanks(MOST));
        Checks.due("n = 0", x.type(0, 0), BAD);
        Checks.due("n = 9", x.type(0, 9), BAD);
        Checks.due("n = 1", x.type(0, 1), FULL);
    }

    private static void clear() {
        Checks.says("clear: THE TEXT is empty: how many bytes it had");
        for (int n = 0; n <= MOST; n++) {
            NoWordNo x = new NoWordNo();
            Calls.type(x, Calls.blanks(n));
            Checks.due("had", x.clear(), n);
            Checks.due("has", x.count(4), 0);
            Checks.due("again", x.clear(), 0);
            Checks.due("all the room again", Calls.type(x, Calls.blanks(MOST)), MOST);
        }
    }

    private static void wholeTexts() {
        Checks.says("a text (200 bytes at most)");
        Checks.tongueIs("choice 2;" + Calls.blanks(MOST - 9), 1);
        Checks.tongueIs(Calls.blanks(MOST - 9) + "choice 2;", 1);
        Checks.tongueIs("choice" + Calls.blanks(MOST - 8) + "2;", 1);
        Checks.tongueIs("choice2" + Calls.blanks(MOST - 8) + ";", 1);
        Checks.tongueIs(Calls.blanks(MOST - 1) + ";", -10 - (MOST - 1));
        Checks.tongueIs(Calls.blanks(MOST - 6) + "choice", -10 - MOST);
        Supplier<NoWordNo> x = () -> Calls.with("choice 2;");
        String whole = "a0|".repeat(66) + "a1";
        Checks.sayLeaves(x, whole, 3);
        Checks.sayLeaves(x, whole.substring(0, MOST - 2) + " a", -10 - MOST);
        Checks.sayLeaves(x, whole.substring(0, MOST - 1) + "2", -10 - (MOST - 1));
        Checks.sayLeaves(x, whole.substring(0, MOST - 1) + "|", -10 - (MOST - 1));
        Checks.sayLeaves(x, "a0" + Calls.blanks(MOST - 3) + ")", -10 - (MOST - 1));
        Checks.sayLeaves(x, Calls.blanks(MOST - 2) + "a1", 2);
        NoWordNo longest = Calls.with("choice 2;", whole);
        Checks.due("SIGNS of the longest", longest.saying(0, 1), 67);
    }

    private static void textIsGoneWhenRead() {
        Checks.says("THE TEXT becomes THE TONGUE, and is empty then; .. is a SAYING, .. and it is empty then");
        NoWordNo x = new NoWordNo();
        Checks.due("the TONGUE", Calls.tongue(x, "choice 2;"), 1);
        Checks.due("no bytes", x.count(4), 0);
        Checks.due("old bytes are no TONGUE", x.tongue(), 0);
        Checks.due("the TONGUE", Calls.tongue(x, "choice 2;"), 1);
        Checks.due("the SAYING", Calls.say(x, "a 0"), 1);
        Checks.due("no bytes", x.count(4), 0);
        Checks.due("old bytes are no SAYING", x.say(), -10);
        Checks.due("one", x.type('a', 1), 1);
        Checks.due("old bytes do not come behind", x.say(), -11);
    }

    private static void blanks() {
        Checks.says("blanks (32) ahead of, between and behind TOKENS as may be");
        String[] tongue = {"choice", "3", ";", "choice", "2", ";"};
        String[] saying = {"(", "a", "2", "|", "b", "1", ")", "&", "a", "0", "|", "w", "0"};
        for (int where = -1; where <= saying.length; where++) {
            for (int many : new int[] {0, 1, 2, 50}) {
                if (where <= tongue.length) {
                    Checks.tongueIs(joined(tongue, where, many), 2);
                }
                Supplier<NoWordNo> x = () -> Calls.withWords("choice 3;choice 2;", 0b100000);
                Checks.sayLeaves(x, joined(saying, where, many), 0b101000);
            }
        }
    }

    /** TOKENS with so many blanks ahead of one of them (behind all, if there is none; everywhere at -1). */
    private static String joined(String[] tokens, int where, int many) {
        StringBuilder s = new StringBuilder();
        int each = Math.min(many, 8);
        for (int i = 0; i < tokens.length; i++) {
            s.append(where == -1 ? Calls.blanks(each) : i == where ? Calls.blanks(many) : "").append(tokens[i]);
        }
        return s.append(where == tokens.length || where == -1 ? Calls.blanks(each) : "").toString();
    }

    private static void onlyThatBlank() {
        Checks.says("blanks (32)");
        Supplier<NoWordNo> x = () -> Calls.with("choice 2;");
        for (int b : new int[] {0, 1, 9, 10, 11, 12, 13, 28, 31, 33, 127, 128, 133, 160, 255}) {
            char c = (char) b;
            Checks.tongueIs(c + "choice 2;", -10);
            Checks.tongueIs("choice" + c + "2;", -16);
            Checks.tongueIs("choice 2" + c + ";", -18);
            Checks.tongueIs("choice 2;" + c, -19);
            Checks.sayLeaves(x, c + "a 0", -10);
            Checks.sayLeaves(x, "a" + c + "0", -11);
            Checks.sayLeaves(x, "a 0" + c, -13);
        }
    }

    private static void noBlanksNeeded() {
        Checks.says("blanks .. (none needed where TOKENS end without)");
        Checks.tongueIs("choice2;choice3;", 2);
        Checks.tongueIs("choicechoice2;", -10);
        Checks.tongueIs("choice2;choicechoice2;", -18);
        Checks.tongueIs("choice2choice", -17);
        Checks.tongueIs("choice22;", -16);
        Checks.tongueIs("choice2 2;", -18);
        Supplier<NoWordNo> x = () -> Calls.withWords("choice 2;choice 2;", 8);
        Checks.sayLeaves(x, "a0&b0|w0", 9);
        Checks.sayLeaves(x, "(a0)&(b0)", 1);
        Checks.sayLeaves(x, "a0b0", -12);
        Checks.sayLeaves(x, "a0(b0)", -12);
        Checks.sayLeaves(x, "(a0)b0", -14);
        Checks.sayLeaves(x, "ab0", -10);
        Checks.sayLeaves(x, "a b0", -12);
        Checks.sayLeaves(x, "aa0", -10);
        Checks.sayLeaves(x, "ww0", -10);
        Checks.sayLeaves(x, "aw0", -10);
        Checks.sayLeaves(x, "wa0", -10);
        Checks.sayLeaves(x, "a01", -11);
        Checks.sayLeaves(x, "a 0 1", -14);
    }

    private static void wordsOfLetters() {
        Checks.says("TOKENS are words of letters a .. z");
        Supplier<NoWordNo> x = () -> Calls.with("choice 2;choice 2;choice 2;");
        for (int b = 0; b < 256; b++) {
            boolean letter = b >= 'a' && b <= 'z';
            boolean digit = b >= '0' && b <= '9';
            // behind a letter: another makes it a word that is none, a digit or a blank is what may come
            int want = letter ? -10 : digit ? b <= '1' ? 0b01010101 << (b - '0') : -11 : b == ' ' ? -12 : -11;
            Checks.sayLeaves(x, "a" + (char) b, want);
            // ahead of one: a letter takes its place, all else that ends may stand there or not
            int ahead = letter ? -10 : b == ' ' || b == '(' ? -12 : -10;
            Checks.sayLeaves(x, (char) b + "a", ahead);
        }
    }

    private static void everyByteOfATongue() {
        Checks.says("FAULT: .. of a byte that begins none .. that TOKEN's (of a TONGUE)");
        for (int b = 0; b < 256; b++) {
            boolean letter = b >= 'a' && b <= 'z';
            boolean digit = b >= '0' && b <= '9';
            char c = (char) b;
            Checks.tongueIs("" + c, b == ' ' ? 0 : -10);
            Checks.tongueIs("choice" + c, letter ? -10 : b == ' ' || b >= '2' && b <= '9' ? -17 : -16);
            Checks.tongueIs("choice 2" + c, digit ? -17 : b == ';' ? 1 : b == ' ' ? -19 : -18);
            Checks.tongueIs("choice 2;" + c, b == ' ' ? 1 : -19);
        }
    }

    private static void everyByteOfASaying() {
        Checks.says("FAULT: .. of a byte that begins none .. that TOKEN's (of a SAYING)");
        Supplier<NoWordNo> x = () -> Calls.with("choice 2;choice 2;");
        for (int b = 0; b < 256; b++) {
            boolean digit = b >= '0' && b <= '9';
            char c = (char) b;
            boolean begins = c == ' ' || c == '(' || c == 'a' || c == 'b' || c == 'w';
            Checks.sayLeaves(x, "" + c, begins ? -11 : -10);
            Checks.sayLeaves(x, "a " + c, c == '0' ? 5 : c == '1' ? 10 : c == ' ' ? -13 : -12);
            boolean goesOn = c == '|' || c == '&';
            Checks.sayLeaves(x, "a 0" + c, goesOn ? -14 : c == ' ' ? 5 : digit ? -12 : -13);
            Checks.sayLeaves(x, "(a 0" + c, goesOn || c == ' ' || c == ')' ? c == ')' ? 5 : -15 : digit ? -13 : -14);
            Checks.sayLeaves(x, "a 0|" + c, begins ? -15 : -14);
            Checks.sayLeaves(x, "a 0&" + c, begins ? -15 : -14);
            Checks.sayLeaves(x, "(" + c, begins ? -12 : -11);
        }
    }

    private static void numbers() {
        Checks.says("FAULT: .. of .. a NUMBER above 99 or with a 0 ahead of others, that TOKEN's");
        String[] none = {
            "00", "01", "02", "000", "002", "09", "0000000002", "10", "11", "12", "20", "98", "99", "100", "101",
            "102", "110", "200", "256", "257", "258", "999", "1000", "65536", "65538", "2147483647", "2147483648",
            "4294967295", "4294967296", "4294967297", "4294967298", "18446744073709551616", "18446744073709551618",
            "340282366920938463463374607431768211456", "340282366920938463463374607431768211458",
        };
        Supplier<NoWordNo> x = () -> Calls.withWords("choice 9;", 1, 2, 4);
        for (String n : none) {
            Checks.tongueIs("choice " + n + ";", -17);
            Checks.tongueIs("choice 2; choice " + n, -27);
            Checks.sayLeaves(x, "a " + n, -12);
            Checks.sayLeaves(x, "w " + n, -12);
            Checks.sayLeaves(x, "a 0 | (a" + n + " | ?", -18);
        }
        Checks.tongueIs("choice " + "9".repeat(193), -17);
        Checks.sayLeaves(x, "a" + "0".repeat(199), -11);
        Checks.sayLeaves(x, "a" + "1".repeat(199), -11);
        Checks.sayLeaves(x, "a 0", 1);
        Checks.sayLeaves(x, "a 8", 256);
        Checks.sayLeaves(x, "w 2", 4);
    }

    private static void endsTooEarly() {
        Checks.says("FAULT: .. the text's length, if it ends too early");
        String[] tongue = {"choice", "2", ";", "choice", "4", ";"};
        StringBuilder s = new StringBuilder();
        for (int i = 0; i < tongue.length; i++) {
            s.append(tongue[i]);
            for (int more = 0; more < 3; more++) {
                Checks.tongueIs(s + Calls.blanks(more), i % 3 == 2 ? i / 3 + 1 : -10 - s.length() - more);
            }
        }
        Supplier<NoWordNo> x = () -> Calls.withWords("choice 2;choice 2;", 9);
        String[] saying = {"(", "a", "0", "|", "w", "0", "&", "b", "0", ")", "&", "(", "(", "a", "1", ")", ")"};
        // what may end there has no ( open and a FACTOR last
        boolean[] ends = new boolean[saying.length];
        ends[9] = true;
        ends[16] = true;
        int[] left = new int[saying.length];
        left[9] = 0b0101;
        s.setLength(0);
        for (int i = 0; i < saying.length; i++) {
            s.append(saying[i]);
            for (int more = 0; more < 3; more++) {
                Checks.sayLeaves(x, s + Calls.blanks(more), ends[i] ? left[i] : -10 - s.length() - more);
            }
        }
    }

    private static void emptySaying() {
        Checks.says("FAULT: .. the text's length, if it ends too early (also an empty SAYING)");
        List<Supplier<NoWordNo>> makers = List.of(NoWordNo::new, () -> Calls.with(""), () -> Calls.with("choice 2;"));
        for (Supplier<NoWordNo> x : makers) {
            for (int n = 0; n <= MOST; n++) {
                Checks.sayLeaves(x, Calls.blanks(n), -10 - n);
            }
            Checks.sayLeaves(x, "()", -11);
            Checks.sayLeaves(x, " (  ) ", -14);
        }
    }

    private static void firstFault() {
        Checks.says("FAULT: the place of the first byte of the first TOKEN that can't stand there");
        Supplier<NoWordNo> x = () -> Calls.with("choice 2;");
        Checks.sayLeaves(x, "| ?", -10);
        Checks.sayLeaves(x, "? |", -10);
        Checks.sayLeaves(x, "a 0 a 0 ? 100", -14);
        Checks.sayLeaves(x, "a 7 ?", -12);
        Checks.sayLeaves(x, "xyz 100", -10);
        Checks.sayLeaves(x, "a 0 | xyz", -16);
        Checks.sayLeaves(x, "a 0 | choice", -16);
        Checks.sayLeaves(x, "a 0 ) ) )", -14);
        Checks.sayLeaves(x, "a ; ?", -12);
        Checks.sayLeaves(x, "a 0 ; a 1", -14);
        Checks.tongueIs("choice 10; ?", -17);
        Checks.tongueIs("choice 2 ? choice 100;", -19);
        Checks.tongueIs("choice 5;choice 2;choice 02;", -26);
        Checks.tongueIs("? choice 100", -10);
        Checks.tongueIs("a 0", -10);
    }

    private static void brackets() {
        Checks.says("( a SAYING ) , 9 of these at most one in another; FAULT: .. a tenth (");
        Supplier<NoWordNo> x = () -> Calls.with("choice 2;");
        for (int n = 0; n <= 60; n++) {
            Checks.sayLeaves(x, "(".repeat(n) + "a 0" + ")".repeat(n), n <= 9 ? 1 : -19);
            Checks.sayLeaves(x, "(".repeat(n), n <= 9 ? -10 - n : -19);
            if (n <= 45) {
                Checks.sayLeaves(x, " (".repeat(n) + " a 0" + " )".repeat(n), n <= 9 ? 1 : -29);
            }
        }
        for (int n = 0; n <= 9; n++) {
            String open = "(".repeat(n);
            String close = ")".repeat(n);
            Checks.sayLeaves(x, open + "a 0|a 1" + close, 3);
            Checks.sayLeaves(x, open + "a 0&a 1" + close, 0);
            Checks.sayLeaves(x, open + "a 0|a 0&a 1|a 1&a 1" + close, 3);
            // each ( has a TERM of its own ahead of it and a FACTOR behind
            Checks.sayLeaves(x, "a 1|(".repeat(n) + "a 0" + ")&a 0".repeat(n), n == 0 ? 1 : 3);
            Checks.sayLeaves(x, "a 1&(".repeat(n) + "a 1|a 0" + ")|a 0".repeat(n), 3);
        }
        String nine = "(((((((((a 0)))))))))";
        String ten = "((((((((((a 0))))))))))";
        Checks.sayLeaves(x, nine + "|" + nine + "&" + nine, 1);
        Checks.sayLeaves(x, nine + "|" + ten, -10 - nine.length() - 10);
        Checks.sayLeaves(x, "(a 1&" + ten, -10 - 5 - 8);
        Checks.sayLeaves(x, "(a 1|" + nine + ")", -10 - 5 - 8);
        Checks.sayLeaves(x, "(a 1|" + nine.substring(1, nine.length() - 1) + ")", 3);
        Checks.sayLeaves(x, "((a 1)|" + nine.substring(1, nine.length() - 1) + ")", 3);
        // one behind another, there may be as many as the text takes
        Checks.sayLeaves(x, "(a1)|".repeat(39) + "(a0)", 3);
    }

    private static void signs() {
        Checks.says("FACTORS that are no ( ) are its SIGNS");
        String[] texts = {"a 0", "(a 0)", "(((a 0)))", "a 0|a 0", "(a 0|w 0)&w 0", "(((((((((w 0)))))))))&(w 0)"};
        int[] many = {1, 1, 1, 2, 3, 2};
        NoWordNo x = Calls.with("choice 2;");
        x.word(3);
        for (int i = 0; i < texts.length; i++) {
            Checks.due(texts[i], Calls.say(x, texts[i]), i + 1);
            Checks.due("SIGNS of " + texts[i], x.saying(i, 1), many[i]);
        }
        Checks.says("| between TERMS, & between FACTORS");
        Supplier<NoWordNo> y = () -> Calls.with("choice 2;choice 2;");
        Checks.sayLeaves(y, "a 0|a 1&b 0", 0b0111);
        Checks.sayLeaves(y, "b 0&a 1|a 0", 0b0111);
        Checks.sayLeaves(y, "(a 0|a 1)&b 0", 0b0011);
        Checks.sayLeaves(y, "b 0&(a 1|a 0)", 0b0011);
        Checks.sayLeaves(y, "b 0&(a 1|a 0)|b 1&a 1", 0b1011);
        Checks.sayLeaves(y, "a 0&a 1", 0);
        Checks.sayLeaves(y, "a 0|a 1", 15);
    }

    /** Every row of up to four TOKENS, read as a SAYING and as a TONGUE. */
    private static void everyRowOfTokens() {
        Checks.says("ITEMS choice N ; .. TERMS with | between; a TERM: FACTORS with & between; a FACTOR ..");
        List<String> rows = new ArrayList<>();
        rows.add("");
        String[] tokens = {"a", "w", "choice", "0", "2", "|", "&", "(", ")", ";", "?"};
        for (int from = 0, length = 0; length < 4; length++) {
            int to = rows.size();
            for (; from < to; from++) {
                for (String token : tokens) {
                    rows.add(rows.get(from) + token + " ");
                }
            }
        }
        Supplier<NoWordNo> x = () -> Calls.withWords("choice 2;", 1);
        for (String row : rows) {
            Checks.sayLeaves(x, row, sayingOf(row));
            Checks.tongueIs(row, tongueOf(row));
        }
    }

    /** Told off the rows alone: every SIGN there is ("a 0", "w 0") leaves WORLD 0. */
    private static int sayingOf(String row) {
        boolean due = true;
        int open = 0;
        boolean numberDue = false;
        int place = 0;
        for (String token : row.isEmpty() ? new String[0] : row.split(" ")) {
            boolean stands;
            if (numberDue) {
                stands = token.equals("0");
                numberDue = false;
                due = false;
            } else if (due) {
                stands = "aw(".contains(token);
                numberDue = stands && !token.equals("(");
                open += token.equals("(") ? 1 : 0;
            } else {
                stands = "|&".contains(token) || token.equals(")") && open > 0;
                open -= token.equals(")") ? 1 : 0;
                due = !token.equals(")");
            }
            if (!stands) {
                return -10 - place;
            }
            place += token.length() + 1;
        }
        return due || numberDue || open > 0 ? -10 - row.length() : 1;
    }

    private static int tongueOf(String row) {
        String[] wanted = {"choice", "2", ";"};
        int at = 0;
        int place = 0;
        for (String token : row.isEmpty() ? new String[0] : row.split(" ")) {
            if (!token.equals(wanted[at % 3])) {
                return -10 - place;
            }
            at++;
            place += token.length() + 1;
        }
        return at % 3 == 0 ? at / 3 : -10 - row.length();
    }
}
