import java.nio.charset.StandardCharsets;
import java.nio.file.Files;
import java.nio.file.Path;
import java.util.Set;
import java.util.TreeSet;

/** Tests that stand each for one sentence of the document, told with the sentence's own words. */
class Sentences {
    static final int NONE = -1, BAD = -2, STATE = -3, FULL = -4, NOBODY = -5;
    static final int LOW = Integer.MIN_VALUE, HIGH = Integer.MAX_VALUE;

    private static final String DOC = "../shared/DOC.md";
    private static final int TERMS = 5, PROMISES = 36;

    private static final Set<String> places = new TreeSet<>();
    private static String doc = "";
    private static String now = "";
    private static int sentences;
    private static int passed;
    private static int failed;

    Sentences() {
    }

    /** A test of one sentence. */
    interface Test {
        void run();
    }

    /** One call of an object. */
    interface Call {
        int on(WallPicks x);
    }

    /** Calls that bring a new object to where a test begins. */
    interface History {
        void on(WallPicks x);
    }

    static void readDocument() throws Exception {
        doc = Files.readString(Path.of(DOC), StandardCharsets.UTF_8).replaceAll("\\s+", " ");
    }

    static void term(int section, String words, Test test) {
        check("section " + section, "==== " + section + " ", section < TERMS ? "==== " + (section + 1) : "Ahead of", words, test);
    }

    static void promise(int number, String words, Test test) {
        String next = number < PROMISES ? "## Promise " + (number + 1) + ":" : "## Not promised";
        check("promise " + number, "## Promise " + number + ":", next, words, test);
    }

    static void rest(String words, Test test) {
        check("ahead of the terms", "## What it is", "## Terms", words, test);
    }

    private static void check(String place, String from, String to, String words, Test test) {
        places.add(place);
        sentences++;
        now = place + ", \"" + words + "\"";
        int begin = doc.indexOf(from);
        int end = doc.indexOf(to, Math.max(begin, 0));
        int found = doc.indexOf(words, Math.max(begin, 0));
        due("the place of the words in the document is", begin >= 0 && found > 0 && found < end ? 1 : 0, 1);
        int before = passed + failed;
        test.run();
        due("the test asks", passed + failed > before ? 1 : 0, 1);
    }

    /** Prints what there was; whether all is well, and every section and promise had a test. */
    static boolean end(String name) {
        now = "the whole";
        due("sections and promises with tests", places.size(), TERMS + PROMISES + 1);
        System.out.println(name + ": " + sentences + " sentences, " + passed + " passed, " + failed + " failed");
        return failed == 0;
    }

    static void due(String call, int got, int want) {
        if (got == want) {
            passed++;
        } else {
            failed++;
            System.out.println(now + ": " + call + " answered " + got + ", due is " + want);
        }
    }

    /** Of two objects that have gone the same way, only one has the call refused: they must stay alike. */
    static void refused(History way, String call, int want, Call made) {
        WallPicks x = after(way);
        due(call, made.on(x), want);
        due(call + ": all is as if it had not been, which", Whole.of(x).equals(Whole.of(after(way))) ? 1 : 0, 1);
    }

    static WallPicks after(History way) {
        WallPicks x = new WallPicks();
        way.on(x);
        return x;
    }

    // ---- ways to where a test begins

    /** Something of all that an object can have, and nothing full. */
    static void some(WallPicks x) {
        x.boy(0, 5, -1);
        x.boy(1, 9, 0);
        x.boy(1, 3, 1);
        settle(x, 0, "mark 10 n=0");
        settle(x, 1, "lack 7 2;both 4 0 1");
        x.game(true);
        x.way(1, 5);
        x.list(1, 2);
        x.list(1, 1);
        x.list(2, 0);
        x.game(true);
        x.image();
        x.boy(2, 6, 2);
        x.told(1);
        x.told(2);
        x.turns(3);
        x.row(1);
        x.row(3);
        x.play(3);
        x.give(0, 2);
        x.give(3, 0);
        x.way(0, 1);
        x.way(2, 6);
        x.act(1, 2, 5);
        feed(x, "mar");
    }

    /** Boys of no place, each with his strength and no friend. */
    static void boys(WallPicks x, int... strengths) {
        for (int strength : strengths) {
            x.boy(0, strength, -1);
        }
    }

    static WallPicks wallOf(int... strengths) {
        WallPicks x = new WallPicks();
        boys(x, strengths);
        return x;
    }

    static void eight(WallPicks x) {
        boys(x, 1, 2, 3, 4, 5, 6, 7, 8);
    }

    static void feed(WallPicks x, String text) {
        for (int i = 0; i < text.length(); i += 8) {
            int n = Math.min(8, text.length() - i);
            long w = 0;
            for (int j = 0; j < n; j++) {
                w = w << 8 | text.charAt(i + j);
            }
            x.feed(w, n);
        }
    }

    static int yardOf(WallPicks x, String text) {
        feed(x, text);
        return x.yard();
    }

    /** A captain has a new yard of that text; the yard's number. */
    static int settle(WallPicks x, int captain, String text) {
        int yard = yardOf(x, text);
        x.has(captain, yard);
        return yard;
    }

    static void isYard(String... texts) {
        for (String text : texts) {
            due("yard() of '" + text + "'", yardOf(new WallPicks(), text), 0);
        }
    }

    static void isFault(String text, int fault) {
        due("yard() of '" + text + "'", yardOf(new WallPicks(), text), -10 - fault);
    }

    /** What each boy alone is worth to captain 0, if he has a yard of that text. */
    static void worthAlone(History way, String text, int... want) {
        WallPicks x = after(way);
        settle(x, 0, text);
        for (int boy = 0; boy < want.length; boy++) {
            due("worth of " + boy + " by '" + text + "'", x.worth(0, 1 << boy), want[boy]);
        }
    }

    static void picksAs(WallPicks x, int captain, int... boys) {
        x.way(captain, 5);
        x.list(captain, -1);
        for (int boy : boys) {
            x.list(captain, boy);
        }
    }

    static void turnsAre(WallPicks x, int... want) {
        for (int t = 0; t < want.length; t++) {
            due("turn " + t, x.turn(t), want[t]);
        }
    }
}
