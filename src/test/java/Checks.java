import java.util.function.Supplier;

/** Counts and prints the answers that are not due, each under the document's sentence that it breaks. */
final class Checks {
    private static final int MOST_PRINTED = 40;

    private static int made = 0;
    private static int wrong = 0;
    private static String sentence = "";

    private Checks() {
    }

    /** The words of the document that the checks from here on are about. */
    static void says(String words) {
        sentence = words;
    }

    static void due(String call, long got, long want) {
        made++;
        if (got != want) {
            wrong++;
            if (wrong <= MOST_PRINTED) {
                System.out.println("\"" + sentence + "\": " + call + " answered " + got + ", due is " + want);
            }
        }
    }

    /** Ends the test, with exit code 1 if an answer was wrong. */
    static void end() {
        System.out.println(made + " checks, " + wrong + " wrong");
        if (wrong != 0) {
            System.exit(1);
        }
    }

    /** Reads a text as a TONGUE on a new object: so many ITEMS, or -10 less the FAULT. */
    static void tongueIs(String text, int want) {
        NoWordNo x = new NoWordNo();
        due("tongue of '" + text + "'", Calls.tongue(x, text), want);
        due("bytes behind tongue of '" + text + "'", x.count(4), want < 0 ? text.length() : 0);
        due("CHOICES behind tongue of '" + text + "'", x.count(0), Math.max(want, 0));
    }

    /** Reads a text as a SAYING, each time on a new object: what it LEAVES, or -10 less the FAULT. */
    static void sayLeaves(Supplier<NoWordNo> maker, String text, int want) {
        NoWordNo x = maker.get();
        x.clear();
        int had = x.count(2);
        int got = Calls.say(x, text);
        due("bytes behind say of '" + text + "'", x.count(4), got < 0 ? text.length() : 0);
        due("SAYINGS behind say of '" + text + "'", x.count(2), got < 0 ? had : had + 1);
        due("say of '" + text + "'", got < 0 ? got : x.saying(had, 0), want);
    }
}
