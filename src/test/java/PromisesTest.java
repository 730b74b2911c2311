/** Each promise by hand: what the document asks, its edges, and the refusals, which change nothing. */
public final class PromisesTest {
    private static final int NONE = -1, BAD = -2, STATE = -3, FULL = -4, NOBODY = -5;

    private static int passed;
    private static int failed;
    private static String promise = "";

    private PromisesTest() {
    }

    /** A call that is refused. */
    private interface Call {
        int on(WallPicks x);
    }

    public static void main(String[] args) {
        newObject();
        boys();
        traits();
        playing();
        feeding();
        yardNumbers();
        yardFaults();
        having();
        worths();
        turnKinds();
        toldTurns();
        turnsOfThree();
        ways();
        lists();
        giving();
        sides();
        picksOfWays();
        picksAhead();
        picksOfKind();
        games();
        summersAreTwelve();
        best();
        values();
        rows();
        judgedRows();
        firsts();
        evenSides();
        cuts();
        trades();
        tradesTillNone();
        thoughts();
        orders();
        lasts();
        acts();
        traces();
        kinds();
        images();
        counts();
        System.out.println("PromisesTest: " + passed + " passed, " + failed + " failed");
        if (failed > 0) {
            System.exit(1);
        }
    }

    // ---- helpers

    private static void due(String call, int got, int want) {
        if (got == want) {
            passed++;
        } else {
            failed++;
            System.out.println(promise + ": " + call + " answered " + got + ", due is " + want);
        }
    }

    private static void refused(WallPicks x, String call, int want, Call made) {
        String before = look(x);
        due(call, made.on(x), want);
        String after = look(x);
        due(call + " changes nothing", after.equals(before) ? 1 : 0, 1);
    }

    /** All that can be asked without a change. */
    private static String look(WallPicks x) {
        StringBuilder seen = new StringBuilder();
        for (int i = 0; i < 8; i++) {
            seen.append(x.count(i)).append(' ').append(x.turn(i)).append(' ').append(x.last(i)).append(' ');
            seen.append(x.order(0, i - 1)).append(' ').append(x.trace(i)).append(' ');
            for (int what = 0; what < 3; what++) {
                seen.append(x.of(i, what)).append(' ');
            }
        }
        for (int captain = 0; captain < 3; captain++) {
            seen.append(x.side(captain)).append(' ').append(x.picks(captain)).append(' ');
            seen.append(x.value(captain)).append(' ').append(x.judged(captain)).append(' ');
            for (int kind = 0; kind < 7; kind++) {
                seen.append(x.as(captain, kind)).append(' ');
            }
            for (int side = 0; side < 1 << x.count(0); side++) {
                seen.append(x.worth(captain, side)).append(' ');
            }
        }
        return seen.toString();
    }

    private static void feed(WallPicks x, String text) {
        for (int i = 0; i < text.length(); i += 8) {
            int n = Math.min(8, text.length() - i);
            long w = 0;
            for (int j = 0; j < n; j++) {
                w = w << 8 | text.charAt(i + j);
            }
            due("feed " + text, x.feed(w, n), i + n);
        }
    }

    /** A captain has a new yard of that text. */
    private static void settle(WallPicks x, int captain, String text) {
        int number = x.count(1);
        feed(x, text);
        due("yard " + text, x.yard(), number);
        x.has(captain, number);
    }

    private static WallPicks wallOf(int... strengths) {
        WallPicks x = new WallPicks();
        for (int i = 0; i < strengths.length; i++) {
            due("boy", x.boy(0, strengths[i], -1), i);
        }
        return x;
    }

    private static void told(WallPicks x, int captain, int... boys) {
        x.way(captain, 5);
        x.list(captain, -1);
        for (int boy : boys) {
            x.list(captain, boy);
        }
    }

    // ---- boys, captains, yards

    private static void newObject() {
        promise = "1 a new object";
        WallPicks x = new WallPicks();
        int[] counts = {0, 0, 2, 0, 0, 0, 0};
        for (int i = 0; i < counts.length; i++) {
            due("count " + i, x.count(i), counts[i]);
        }
        due("turn 0", x.turn(0), 0);
        due("turn 3", x.turn(3), 1);
        due("side 1", x.side(1), 0);
        due("side 2", x.side(2), NONE);
        due("picks", x.picks(0), NOBODY);
        due("best", x.best(), NOBODY);
        due("value", x.value(1), 0);
        due("worth", x.worth(2, 0), 0);
        due("judged", x.judged(0), NOBODY);
        due("first", x.first(1), 0);
        due("cut", x.cut(0, 1, 1), 0);
        due("order", x.order(2, -1), 0);
        due("game", x.game(true), 0);
        due("no summer without boys", x.count(3), 0);
        for (int captain = 0; captain < 3; captain++) {
            due("has", x.has(captain, -1), NOBODY);
            due("way", x.way(captain, 0), 0);
        }
        due("turns", x.turns(0), 0);
        due("undo", x.undo(), STATE);
    }

    private static void boys() {
        promise = "2 boy";
        WallPicks x = new WallPicks();
        refused(x, "place 4", NONE, y -> y.boy(4, 0, 0));
        refused(x, "place -1", NONE, y -> y.boy(-1, 0, 0));
        refused(x, "friend 3", NONE, y -> y.boy(0, 0, 3));
        refused(x, "friend -2", NONE, y -> y.boy(0, 0, -2));
        refused(x, "least friend", NONE, y -> y.boy(0, 0, Integer.MIN_VALUE));
        refused(x, "most friend", NONE, y -> y.boy(0, 0, Integer.MAX_VALUE));
        refused(x, "strength 21", BAD, y -> y.boy(0, 21, 0));
        refused(x, "strength -1", BAD, y -> y.boy(0, -1, 0));
        refused(x, "none ahead of bad", NONE, y -> y.boy(0, 21, 3));
        for (int i = 0; i < 8; i++) {
            due("boy " + i, x.boy(i % 4, i % 2 * 20, i % 4 - 1), i);
        }
        refused(x, "a ninth", FULL, y -> y.boy(0, 0, -1));
        refused(x, "none ahead of full", NONE, y -> y.boy(4, 0, -1));
        refused(x, "bad ahead of full", BAD, y -> y.boy(0, 21, -1));
    }

    private static void traits() {
        promise = "3 of";
        WallPicks x = new WallPicks();
        x.boy(3, 20, 2);
        x.boy(1, 0, -1);
        int[][] want = {{3, 20, 2}, {1, 0, NOBODY}};
        for (int boy = 0; boy < 2; boy++) {
            for (int what = 0; what < 3; what++) {
                due("of " + boy + " " + what, x.of(boy, what), want[boy][what]);
            }
        }
        due("no boy", x.of(2, 0), NONE);
        due("no boy", x.of(-1, 0), NONE);
        due("no what", x.of(0, 3), NONE);
        due("no what", x.of(0, -1), NONE);
    }

    private static void playing() {
        promise = "4 play";
        WallPicks x = wallOf(1, 2);
        due("play 3", x.play(3), 2);
        x.give(0, 2);
        refused(x, "play 1", BAD, y -> y.play(1));
        refused(x, "play 4", BAD, y -> y.play(4));
        due("side 2", x.side(2), 1);
        due("the same number", x.play(3), 3);
        due("sides are empty then", x.side(2), 0);
        x.give(1, 0);
        due("play 2", x.play(2), 3);
        due("sides are empty then", x.side(0), 0);
        due("side 2", x.side(2), NONE);
        due("left", x.count(4), 2);
    }

    private static void feeding() {
        promise = "5 feed";
        WallPicks x = new WallPicks();
        refused(x, "n 0", BAD, y -> y.feed(0, 0));
        refused(x, "n 9", BAD, y -> y.feed(0, 9));
        refused(x, "n -1", BAD, y -> y.feed(0, -1));
        due("the lowest bytes, the highest first", x.feed(0x7a7a7a7a6c61636bL, 4), 4);
        due("bytes behind", x.feed(0x20312030L, 4), 8);
        due("it is a yard", x.yard(), 0);
        for (int i = 1; i < 15; i++) {
            due("feed", x.feed(-1L, 8), 8 * i);
        }
        due("feed 7", x.feed(0, 7), 119);
        refused(x, "two more", FULL, y -> y.feed(0, 2));
        refused(x, "bad ahead of full", BAD, y -> y.feed(0, 9));
        due("one more", x.feed(0, 1), 120);
        refused(x, "beyond 120", FULL, y -> y.feed(0, 1));
        due("bytes beyond 127 are no yard", x.yard(), -10);
    }

    private static void yardNumbers() {
        promise = "6 yard";
        WallPicks x = new WallPicks();
        for (int i = 0; i < 6; i++) {
            feed(x, "mark");
            due("a fault", x.yard(), -14);
            due("the tape is empty then", x.count(5), 0);
            feed(x, "lack 1 " + i % 4);
            due("yard", x.yard(), i);
            due("the tape is empty then", x.count(5), 0);
            due("yards", x.count(1), i + 1);
        }
        feed(x, "x");
        refused(x, "full ahead of all", FULL, WallPicks::yard);
        due("the tape stays", x.count(5), 1);
        due("the tape stays", x.feed('y', 1), 2);
    }

    private static void fault(String text, int want) {
        WallPicks x = new WallPicks();
        feed(x, text);
        due("yard of '" + text + "'", x.yard(), want < 0 ? 0 : -10 - want);
        due("yards", x.count(1), want < 0 ? 1 : 0);
        due("tape", x.count(5), 0);
    }

    private static void yardFaults() {
        promise = "6 yard, faults";
        String[] yards = {
            "mark 5 p=1", "mark 0 n<7", "mark 99 s>10", "mark 10 f=99", "both 5 7 7", "both 0 0 1", "lack 3 3",
            "lack 0 0", "mark 5 !!!!!p=1", "mark 5 (((((p=1)))))", "mark 5 !p=1&!p=1|!p=1&!p=1&!p=1&!p=1&!p=1",
            "mark 5 (!(!(p=1))&!!!!p=1)", "mark 5 (p=1)|(p=1|f=9)&(s<4)", "lack 1 0;mark 2 p=0;both 3 1 2",
            "lack 0 0;".repeat(9) + "lack 0 0", "mark 1 p=11" + "|p=1".repeat(26) + "&n=0",
        };
        for (String yard : yards) {
            fault(yard, -1);
        }
        fault("mark 1 p=11" + "|p=1".repeat(26) + "|p=11", -1);
        Object[][] faults = {
            {"", 0}, {"x", 0}, {" mark 1 p=1", 0}, {"M", 0}, {"m", 1}, {"mork", 1}, {"mark", 4}, {"mark5", 4},
            {"bot ", 3}, {"both5", 4}, {"l", 1}, {"lacc", 3}, {"mark 4", 6}, {"mark  4", 5}, {"mark -4", 5},
            {"mark 05 p=1", 6}, {"mark 100 p=1", 7}, {"mark 5  p=1", 7}, {"mark 5 ", 7}, {"mark 5 q=1", 7},
            {"mark 5 p~1", 8}, {"mark 5 p;1", 8}, {"mark 5 p?1", 8}, {"mark 5 p", 8}, {"mark 5 p=", 9}, {"mark 5 p==", 9}, {"mark 5 p=05", 10},
            {"mark 5 p=123", 11}, {"mark 5 p=1)", 10}, {"mark 5 (p=1", 11}, {"mark 5 ()", 8}, {"mark 5 p=1 ", 10},
            {"mark 5 p=1|", 11}, {"mark 5 p=1&&p=1", 11}, {"mark 5 |p=1", 7}, {"mark 5 (p=1;", 11},
            {"mark 5 !!!!!!p=1", 12}, {"mark 5 ((((((p=1))))))", 12}, {"mark 5 (!(!(p=1))&!!!(!p=1))", 22},
            {"mark 5 p=1!", 10}, {"mark 5 p=1(", 10}, {"mark 5 !", 8}, {"mark 5 (p=1))", 12},
            {"both 5 7 8", 9}, {"both 5 8", 7}, {"both 5 7", 8}, {"both 5 77", 8}, {"both 5 7 7 ", 10},
            {"both 5 7  7", 9}, {"both", 4}, {"lack 3 4", 7}, {"lack 3 3 ", 8}, {"lack 3 33", 8}, {"lack 3 3;", 9},
            {"lack 3 3;;", 9}, {"lack 00 0", 6}, {"lack 0 0; lack 0 0", 9}, {"lack 0 0,lack 0 0", 8},
            {"lack 0 0;".repeat(10), 89}, {"lack 0 0;".repeat(10) + "lack 0 0", 89},
            {"lack 0 0;".repeat(9) + "lack 0 ", 88}, {"mark 5 p=1" + "|p=1".repeat(27) + "|p", 120},
        };
        for (Object[] one : faults) {
            fault((String) one[0], (Integer) one[1]);
        }
    }

    private static void having() {
        promise = "7 has";
        WallPicks x = wallOf(1, 2);
        feed(x, "mark 10 n=0");
        x.yard();
        feed(x, "mark 20 n=1");
        x.yard();
        due("has 2 1", x.has(2, 1), NOBODY);
        due("has 2 0", x.has(2, 0), 1);
        due("worth", x.worth(2, 3), 13);
        due("none", x.has(2, -1), 0);
        due("none had", x.has(2, 1), NOBODY);
        due("worth", x.worth(2, 3), 23);
        due("another's worth", x.worth(0, 3), 3);
        refused(x, "no yard", NONE, y -> y.has(2, 2));
        refused(x, "no yard", NONE, y -> y.has(2, -2));
        refused(x, "no captain", NONE, y -> y.has(3, 0));
        refused(x, "no captain", NONE, y -> y.has(-1, 0));
    }

    private static void worths() {
        promise = "8 worth";
        WallPicks x = new WallPicks();
        settle(x, 0, "mark 10 p=1|f=0&s>5;both 4 0 3;lack 20 2;both 7 5 5;mark 1 f=9");
        settle(x, 1, "mark 3 !(p=1|p=0);mark 5 n<2;mark 7 n>2&!s=1;lack 9 3");
        due("an empty wall", x.worth(0, 0), -20);
        x.boy(0, 5, -1);
        x.boy(1, 9, 0);
        x.boy(1, 3, 1);
        x.boy(2, 7, -1);
        x.boy(3, 1, 0);
        due("nobody", x.worth(0, 0), -20);
        due("none of place 2", x.worth(0, 1), 5 + 1 - 20);
        due("mark", x.worth(0, 2), 9 + 10 - 20);
        due("two marks", x.worth(0, 6), 9 + 3 + 20 - 20);
        due("both", x.worth(0, 9), 5 + 7 + 4 + 2);
        due("& ahead of |", x.worth(0, 16), 1 - 20);
        due("all", x.worth(0, 31), 25 + 20 + 4 + 2);
        due("not, brackets", x.worth(1, 24), 7 + 1 + 6 + 7);
        due("numbers, lack", x.worth(1, 3), 5 + 9 + 10 - 9);
        due("no yard", x.worth(2, 31), 25);
        x.boy(3, 20, 0);
        due("a boy who came later", x.worth(0, 32), 20 + 10 - 20 + 7);
        due("a boy who came later", x.worth(1, 32), 20 + 3 + 7);
        refused(x, "no captain", -1001, y -> y.worth(3, 0));
        refused(x, "no captain", -1001, y -> y.worth(-1, 64));
        refused(x, "side", -1002, y -> y.worth(0, 64));
        refused(x, "side", -1002, y -> y.worth(0, -1));
    }

    // ---- turns, ways, games

    private static void turnsAre(WallPicks x, int... want) {
        for (int t = 0; t < want.length; t++) {
            due("turn " + t, x.turn(t), want[t]);
        }
    }

    private static void turnKinds() {
        promise = "9 turns";
        WallPicks x = new WallPicks();
        turnsAre(x, 0, 1, 0, 1, 0, 1, 0, 1);
        due("turns 1", x.turns(1), 0);
        turnsAre(x, 0, 1, 1, 0, 0, 1, 1, 0);
        due("turns 2", x.turns(2), 1);
        turnsAre(x, 0, 1, 1, 0, 0, 1, 1, 0);
        due("turns 3", x.turns(3), 2);
        turnsAre(x, 0, 1, 0, 1, 0, 1, 0, 1);
        refused(x, "turns 4", NONE, y -> y.turns(4));
        refused(x, "turns -1", NONE, y -> y.turns(-1));
        due("turns 0", x.turns(0), 3);
    }

    private static void toldTurns() {
        promise = "10 told";
        WallPicks x = new WallPicks();
        x.turns(3);
        int[] row = {1, 2, 0, 2, 1, 1, 0, 0};
        for (int i = 0; i < 8; i++) {
            due("told", x.told(row[i]), i + 1);
        }
        refused(x, "a ninth", FULL, y -> y.told(0));
        refused(x, "none ahead of full", NONE, y -> y.told(3));
        refused(x, "no captain", NONE, y -> y.told(-2));
        turnsAre(x, 1, 1, 0, 1, 1, 1, 0, 0);
        x.play(3);
        turnsAre(x, 1, 2, 0, 2, 1, 1, 0, 0);
        due("empty", x.told(-1), 0);
        due("told", x.told(2), 1);
        turnsAre(x, 2, 1, 2, 0, 1, 2, 0, 1);
    }

    private static void turnsOfThree() {
        promise = "11 turn";
        WallPicks x = new WallPicks();
        x.play(3);
        turnsAre(x, 0, 1, 2, 0, 1, 2, 0, 1);
        x.turns(1);
        turnsAre(x, 0, 1, 2, 2, 1, 0, 0, 1);
        x.turns(2);
        turnsAre(x, 0, 1, 1, 2, 2, 0, 0, 1);
        due("turn 8", x.turn(8), NONE);
        due("turn -1", x.turn(-1), NONE);
    }

    private static void ways() {
        promise = "12 way";
        WallPicks x = wallOf(1, 9);
        for (int kind = 1; kind < 7; kind++) {
            due("way", x.way(2, kind), kind - 1);
        }
        due("another's", x.way(0, 1), 0);
        refused(x, "no kind", NONE, y -> y.way(0, 7));
        refused(x, "no kind", NONE, y -> y.way(0, -1));
        refused(x, "no captain", NONE, y -> y.way(3, 0));
        refused(x, "no captain", NONE, y -> y.way(-1, 0));
        due("as it was", x.way(2, 0), 6);
    }

    private static void lists() {
        promise = "13 list";
        WallPicks x = wallOf(1, 2, 3);
        x.way(0, 5);
        due("an empty list: the least", x.picks(0), 0);
        int[] row = {7, 2, 1, 2, 0, 0, 0, 0};
        for (int i = 0; i < 8; i++) {
            due("list", x.list(0, row[i]), i + 1);
        }
        refused(x, "a ninth", FULL, y -> y.list(0, 0));
        refused(x, "none ahead of full", NONE, y -> y.list(0, 8));
        refused(x, "no captain", NONE, y -> y.list(3, -1));
        refused(x, "no captain", NONE, y -> y.list(-1, 0));
        refused(x, "no boy", NONE, y -> y.list(0, -2));
        due("the first that is left", x.picks(0), 2);
        due("another's list", x.list(2, 1), 1);
        due("empty", x.list(0, -1), 0);
        due("an empty list", x.picks(0), 0);
        due("list", x.list(0, 1), 1);
        due("listed", x.picks(0), 1);
    }

    private static void giving() {
        promise = "14 give";
        WallPicks x = wallOf(1, 2);
        due("give", x.give(0, 1), NOBODY);
        due("give", x.give(0, 0), 1);
        due("nobody else has him", x.side(1), 0);
        due("the same", x.give(0, 0), 0);
        due("side", x.side(0), 1);
        refused(x, "no boy", NONE, y -> y.give(2, 0));
        refused(x, "no boy", NONE, y -> y.give(-1, 0));
        refused(x, "doesn't play", NONE, y -> y.give(0, 2));
        refused(x, "no captain", NONE, y -> y.give(0, -2));
        due("nobody", x.give(0, -1), 0);
        due("side", x.side(0), 0);
        due("nobody", x.give(0, -1), NOBODY);
        x.play(3);
        due("plays", x.give(1, 2), NOBODY);
        due("plays", x.give(1, 1), 2);
    }

    private static void sides() {
        promise = "15 side";
        WallPicks x = wallOf(1, 2, 3);
        x.give(0, 1);
        x.give(2, 1);
        x.give(1, 0);
        due("side 0", x.side(0), 2);
        due("side 1", x.side(1), 5);
        due("doesn't play", x.side(2), NONE);
        due("no captain", x.side(-1), NONE);
        x.play(3);
        due("plays", x.side(2), 0);
        due("no captain", x.side(3), NONE);
    }

    private static void picksOfWays() {
        promise = "16 picks";
        WallPicks x = new WallPicks();
        x.boy(0, 1, 0);
        x.boy(1, 5, 1);
        x.boy(2, 5, -1);
        x.boy(3, 0, 0);
        due("way", x.picks(0), 0);
        x.way(0, 1);
        due("greedy, the least of like ones", x.picks(0), 1);
        settle(x, 0, "mark 3 n=2;both 9 0 3");
        due("greedy by his yard", x.picks(0), 2);
        x.give(0, 0);
        due("greedy of the whole side", x.picks(0), 3);
        x.has(0, -1);
        x.give(0, -1);
        x.way(0, 3);
        due("of his friends", x.picks(0), 0);
        x.give(0, 1);
        due("of his friends who are left", x.picks(0), 3);
        x.give(3, 1);
        due("of all, if none is left", x.picks(0), 1);
        x.way(1, 5);
        due("told, none of his list is left", x.picks(1), 1);
        x.give(0, -1);
        x.give(1, 0);
        x.give(2, 0);
        for (int kind = 0; kind < 7; kind++) {
            x.way(0, kind);
            due("the last one left", x.picks(0), 0);
        }
        x.give(0, 1);
        x.give(1, -1);
        x.give(2, -1);
        x.give(1, 0);
        x.give(2, 0);
        for (int kind = 0; kind < 7; kind++) {
            x.way(0, kind);
            due("nobody is left", x.picks(0), NOBODY);
        }
        due("doesn't play", x.picks(2), NONE);
        due("no captain", x.picks(-1), NONE);
    }

    private static void picksAhead() {
        promise = "16 picks, ahead and best";
        WallPicks x = wallOf(5, 4, 4, 1);
        settle(x, 1, "mark 9 n=3;both 20 1 2");
        x.way(0, 2);
        due("what the next one wants", x.picks(0), 3);
        x.give(2, 1);
        x.give(3, 0);
        due("of his side as it is", x.picks(0), 1);
        x.turns(1);
        x.give(3, -1);
        due("the next one by turns", x.picks(0), 1);
        x.way(1, 2);
        due("whoever's turn it is: he himself is next", x.picks(1), 1);
        x.turns(0);
        x.give(0, 0);
        x.give(1, 1);
        due("nobody is left behind this one", x.picks(0), 3);
        x = wallOf(5, 4, 4);
        settle(x, 0, "both 20 1 2");
        x.way(0, 1);
        due("greedy", x.picks(0), 0);
        x.way(0, 4);
        due("best", x.picks(0), 1);
        x.way(1, 4);
        due("best out of his turn: he is the next one, too", x.picks(1), 0);
        x.turns(1);
        due("best by turns", x.picks(0), 0);
        x = wallOf(4, 4, 5);
        x.way(0, 4);
        x.turns(1);
        due("best: he has no other turn", x.picks(0), 2);
    }

    private static void picksOfKind() {
        promise = "16 picks, kind";
        WallPicks x = wallOf(1, 5, 4, 2);
        x.way(0, 6);
        due("without summers", x.picks(0), 1);
        told(x, 0, 0, 1, 2, 3);
        told(x, 1, 0, 1, 2, 3);
        x.game(true);
        x.game(true);
        told(x, 0, 3, 1, 0, 2);
        told(x, 1, 3, 1, 0, 2);
        x.game(true);
        x.play(2);
        x.way(0, 6);
        due("who was last most often", x.picks(0), 3);
        x.give(3, 1);
        due("of those left", x.picks(0), 2);
        x.give(2, 1);
        due("all left are alike", x.picks(0), 1);
        told(x, 0, 3, 1, 0, 2);
        x.game(true);
        x.play(2);
        x.way(0, 6);
        due("as greedy of like ones", x.picks(0), 2);
        x = wallOf(9, 8);
        x.game(true);
        x.play(2);
        x.way(0, 6);
        due("not the one who never was", x.picks(0), 1);
        x = wallOf(1, 2);
        told(x, 0, 1);
        x.game(true);
        x.play(2);
        x.way(0, 6);
        due("boy 0 was", x.picks(0), 0);
    }

    private static void games() {
        promise = "17 game";
        WallPicks x = wallOf(1, 5, 4, 2, 3);
        x.way(1, 1);
        x.give(4, 0);
        due("game", x.game(false), 5);
        due("ways by turns from empty sides", x.side(0), 1 + 4 + 8);
        due("ways by turns from empty sides", x.side(1), 2 + 16);
        due("not kept", x.count(3), 0);
        x.turns(1);
        x.play(3);
        x.way(0, 1);
        due("game", x.game(true), 5);
        due("side 0", x.side(0), 2);
        due("side 1", x.side(1), 4 + 16);
        due("side 2", x.side(2), 1 + 8);
        due("kept", x.count(3), 1);
        due("nobody is left", x.count(4), 0);
    }

    private static void summersAreTwelve() {
        promise = "17 game, summers";
        WallPicks x = wallOf(1, 2);
        for (int i = 0; i < 12; i++) {
            due("game", x.game(true), 2);
            due("summers", x.count(3), i + 1);
        }
        x = wallOf(1);
        x.game(true);
        due("one boy is a summer", x.count(3), 1);
        due("one boy was the last", x.last(0), 1);
        x = wallOf(1, 2);
        for (int i = 0; i < 12; i++) {
            x.game(true);
        }
        x.way(0, 1);
        due("the game goes", x.game(true), 2);
        due("it goes by its ways", x.side(0), 2);
        due("and is none", x.count(3), 12);
        due("and is none", x.last(1), 12);
    }

    // ---- the best

    private static void best() {
        promise = "18 best";
        WallPicks x = wallOf(5, 4, 4);
        settle(x, 0, "both 20 1 2");
        due("best", x.best(), 1);
        x.give(1, 0);
        due("the other's turn", x.best(), 0);
        x.give(2, 0);
        due("as sides are now", x.best(), 0);
        x.give(0, 1);
        due("nobody is left", x.best(), NOBODY);
        x = wallOf(3, 3, 3);
        due("of several the least", x.best(), 0);
        x.way(0, 5);
        x.list(0, 2);
        due("whatever ways they have", x.best(), 0);
    }

    private static void values() {
        promise = "19 value";
        WallPicks x = wallOf(5, 4, 4);
        settle(x, 0, "both 20 1 2");
        due("value 0", x.value(0), 28);
        due("value 1", x.value(1), 5);
        x.give(0, 0);
        due("value 0", x.value(0), 9);
        due("value 1", x.value(1), 4);
        x.give(0, 1);
        due("the turn is 1's", x.value(0), 4);
        due("the turn is 1's", x.value(1), 9);
        x.turns(2);
        due("then 1 again", x.value(1), 13);
        due("then 1 again", x.value(0), 0);
        due("doesn't play", x.value(2), -1001);
        due("no captain", x.value(-1), -1001);
        settle(x, 1, "mark 10 n=1");
        due("a new yard", x.value(1), 23);
        x.boy(0, 20, -1);
        due("a new boy", x.value(1), 39);
        x.image();
        x.has(1, -1);
        due("no yard", x.value(1), 29);
        x.undo();
        due("as it was", x.value(1), 39);
        x = wallOf(5, 4, 4);
        x.turns(2);
        x.play(3);
        due("plays, has no turn", x.value(2), 0);
        x.turns(0);
        due("plays", x.value(2), 4);
        x.give(0, 2);
        due("has the first, the third is his, too", x.value(2), 9);
        due("has the second", x.value(1), 4);
        due("has none", x.value(0), 0);
    }

    private static void rows() {
        promise = "20 row";
        WallPicks x = wallOf(1, 2);
        int[] row = {0, 1, 7, 0, 0, 0, 0, 0};
        for (int i = 0; i < 8; i++) {
            due("row", x.row(row[i]), i + 1);
        }
        refused(x, "a ninth", FULL, y -> y.row(0));
        refused(x, "none ahead of full", NONE, y -> y.row(8));
        refused(x, "no boy", NONE, y -> y.row(-2));
        due("judged", x.judged(0), 2);
        due("empty", x.row(-1), 0);
        due("judged", x.judged(0), NOBODY);
        due("row", x.row(1), 1);
    }

    private static void judgedAre(WallPicks x, int wrong, int slip, int loss) {
        due("judged 0", x.judged(0), wrong);
        due("judged 1", x.judged(1), slip);
        due("judged 2", x.judged(2), loss);
    }

    private static void judgedRows() {
        promise = "21 judged";
        WallPicks x = wallOf(5, 4, 4);
        settle(x, 0, "both 20 1 2");
        judgedAre(x, NOBODY, NOBODY, 0);
        x.give(0, 1);
        x.row(0);
        judgedAre(x, NOBODY, 0, 19);
        x.row(0);
        judgedAre(x, 1, 0, 19);
        x.row(-1);
        x.row(1);
        judgedAre(x, NOBODY, NOBODY, 0);
        x.row(2);
        judgedAre(x, NOBODY, 1, 1);
        x.row(0);
        judgedAre(x, NOBODY, 1, 1);
        x.row(3);
        judgedAre(x, 3, 1, 1);
        x.row(-1);
        x.row(1);
        x.row(5);
        x.row(2);
        judgedAre(x, 1, NOBODY, 0);
        x.row(-1);
        x.turns(1);
        x.row(1);
        judgedAre(x, NOBODY, 0, 1);
        x.row(-1);
        x.row(5);
        x.row(0);
        x.row(6);
        judgedAre(x, 0, NOBODY, 0);
        x = wallOf(9, 5, 4, 1);
        x.row(3);
        x.row(2);
        judgedAre(x, NOBODY, 0, 7);
        due("no what", x.judged(3), NONE);
        due("no what", x.judged(-1), NONE);
    }

    private static void firsts() {
        promise = "22 first, 23 fairest";
        WallPicks x = wallOf(5, 4, 4);
        due("one by one", x.first(0), 9 - 4);
        due("snake", x.first(1), 5 - 8);
        due("twos", x.first(2), 5 - 8);
        due("fairest", x.fairest(), 1);
        settle(x, 0, "both 20 1 2");
        x.give(0, 0);
        x.turns(3);
        due("one by one", x.first(0), 28 - 4);
        due("snake", x.first(1), 5 - 28);
        due("twos", x.first(2), 5 - 28);
        due("fairest, of several the least", x.fairest(), 1);
        due("no turns", x.first(3), -1001);
        due("no turns", x.first(-1), -1001);
        x.play(3);
        due("three: each takes one", x.first(0), 5 - 4);
        due("fairest", x.fairest(), 0);
        x.boy(0, 3, -1);
        due("three, snake: 2 takes two", x.first(1), 5 - 4);
        due("three, twos: 1 takes two", x.first(2), 5 - 28);
        x = wallOf(0, 1, 2, 9, 10, 20);
        x.play(3);
        due("20 and 2, less 10 and 1", x.first(0), 11);
        due("20 and 0, less 10 and 1", x.first(1), 9);
        due("20 and 0, less 10 and 9", x.first(2), 1);
        due("fairest", x.fairest(), 2);
    }

    // ---- even sides, cutting, trades

    private static void evenSides() {
        promise = "24 even";
        WallPicks x = wallOf(5);
        due("one boy", x.even(0), 0);
        due("one boy", x.even(1), 5);
        x = wallOf(5, 9, 3, 7);
        x.give(0, 0);
        due("as many, the least bits", x.even(0), 6);
        due("apart", x.even(1), 0);
        x.boy(0, 1, -1);
        due("one less in the first", x.even(0), 6);
        due("apart", x.even(1), 1);
        x = wallOf(20, 1, 1, 1);
        due("as many, though others are less apart", x.even(0), 3);
        due("apart", x.even(1), 19);
        due("no what", x.even(2), NONE);
        due("no what", x.even(-1), NONE);
        due("nobody", new WallPicks().even(1), 0);
    }

    private static void cuts() {
        promise = "25 cut";
        WallPicks x = wallOf(4, 4, 4);
        settle(x, 0, "mark 10 n=0");
        due("0 cuts", x.cut(0, 1, 0), 1);
        due("0 has", x.cut(0, 1, 1), 1);
        due("1 cuts", x.cut(1, 0, 0), 1);
        due("1 has", x.cut(1, 0, 1), 6);
        due("one who doesn't play", x.cut(2, 0, 1), 6);
        due("none", x.cut(3, 0, 0), NONE);
        due("none", x.cut(0, 3, 0), NONE);
        due("none", x.cut(-1, 0, 0), NONE);
        due("none", x.cut(0, -1, 0), NONE);
        due("none", x.cut(0, 1, 2), NONE);
        due("none ahead of bad", x.cut(0, 0, -1), NONE);
        due("bad", x.cut(0, 0, 0), BAD);
        x = wallOf(4, 4, 4);
        due("of several the first side the least", x.cut(0, 1, 0), 1);
        due("of several the first side the least", x.cut(0, 1, 1), 1);
        x = wallOf(0, 0);
        due("nobody is worth anything", x.cut(0, 1, 0), 0);
        due("nobody is worth anything: b takes nobody", x.cut(0, 1, 1), 3);
        x = wallOf(4, 4);
        due("of like ones b takes the first", x.cut(0, 1, 0), 1);
        due("of like ones b takes the first", x.cut(0, 1, 1), 2);
        settle(x, 1, "mark 9 n=0;mark 9 n=1");
        settle(x, 0, "mark 9 n=0");
        due("what is left of the better one", x.cut(0, 1, 1), 2);
    }

    private static WallPicks traders() {
        WallPicks x = wallOf(5, 5, 5, 5);
        settle(x, 0, "mark 10 n=1|n=3");
        settle(x, 1, "mark 10 n=0|n=2");
        x.give(0, 0);
        x.give(2, 0);
        x.give(1, 1);
        x.give(3, 1);
        return x;
    }

    private static void trades() {
        promise = "26 trades";
        WallPicks x = traders();
        due("all four", x.trades(0, 1, 0), 4);
        due("the first", x.trades(0, 1, 1), 1);
        due("the first of the other", x.trades(1, 0, 1), 10);
        x.give(3, -1);
        due("two", x.trades(0, 1, 0), 2);
        x.give(0, -1);
        due("the first", x.trades(0, 1, 1), 21);
        x.has(1, -1);
        due("both must want it more", x.trades(0, 1, 0), 0);
        due("both must want it more", x.trades(1, 0, 1), NOBODY);
        x.play(3);
        x.has(2, 1);
        x.give(1, 2);
        x.give(0, 0);
        x.give(3, 1);
        due("of these two alone", x.trades(0, 2, 0), 1);
        due("of these two alone", x.trades(2, 0, 1), 10);
        x.play(2);
        due("doesn't play", x.trades(0, 2, 0), NONE);
        due("doesn't play", x.trades(2, 0, 0), NONE);
        due("no captain", x.trades(-1, 0, 0), NONE);
        due("no what", x.trades(0, 1, 2), NONE);
        due("none ahead of bad", x.trades(0, 0, -1), NONE);
        due("bad", x.trades(1, 1, 0), BAD);
    }

    private static void tradesTillNone() {
        promise = "27 trade";
        WallPicks x = traders();
        refused(x, "doesn't play", NONE, y -> y.trade(0, 2));
        refused(x, "doesn't play", NONE, y -> y.trade(2, 0));
        refused(x, "no captain", NONE, y -> y.trade(-1, -1));
        refused(x, "bad", BAD, y -> y.trade(1, 1));
        due("trades", x.trade(0, 1), 2);
        due("side 0", x.side(0), 10);
        due("side 1", x.side(1), 5);
        due("no more", x.trade(1, 0), 0);
        x = traders();
        x.give(1, -1);
        due("trades", x.trade(0, 1), 1);
        due("the first", x.side(0), 12);
        due("the first", x.side(1), 1);
        tradesAreTwenty();
    }

    /** A wall and yards that were searched for: 21 trades, one behind the other. */
    private static void tradesAreTwenty() {
        int[] places = {3, 3, 0, 1, 2, 1, 0, 2};
        int[] strengths = {11, 7, 19, 8, 3, 5, 19, 2};
        WallPicks x = new WallPicks();
        for (int i = 0; i < 8; i++) {
            x.boy(places[i], strengths[i], -1);
            x.give(i, 108 >> i & 1);
        }
        settle(x, 0, "mark 7 n=3;mark 21 n=6;lack 95 1;both 5 1 4;both 80 4 3;both 71 3 3;lack 51 3;mark 24 n=6;"
            + "mark 34 n=6;both 2 1 6");
        settle(x, 1, "both 7 1 4;lack 52 2;both 24 2 4;lack 33 2;mark 46 n=7;both 71 7 5;lack 3 3;lack 43 2;"
            + "lack 48 2;lack 46 3");
        due("twenty at most", x.trade(0, 1), 20);
        due("one more is wanted", x.trade(0, 1), 1);
    }

    // ---- summers

    private static WallPicks summers() {
        WallPicks x = wallOf(1, 2, 3);
        told(x, 0, 2, 1);
        told(x, 1, 0);
        x.game(true);
        told(x, 0, 0, 1);
        told(x, 1, 2);
        x.game(true);
        return x;
    }

    private static void thoughts() {
        promise = "28 thought";
        WallPicks x = summers();
        due("2 ahead of 0", x.thought(0, 2, 0), 1);
        due("2 ahead of 1", x.thought(0, 2, 1), 1);
        due("0 ahead of 2", x.thought(0, 0, 2), 1);
        due("1 was the last", x.thought(0, 1, 0), 0);
        due("another's", x.thought(1, 0, 1), 1);
        due("not left any more", x.thought(1, 0, 2), 0);
        due("no games", x.thought(2, 0, 1), 0);
        x.boy(0, 9, -1);
        due("wasn't there", x.thought(0, 2, 3), 0);
        x.game(true);
        due("was left", x.thought(0, 0, 3), 1);
        due("no captain", x.thought(3, 0, 1), NONE);
        due("no captain", x.thought(-1, 0, 1), NONE);
        due("no boy", x.thought(0, 4, 1), NONE);
        due("no boy", x.thought(0, 0, 4), NONE);
        due("none ahead of bad", x.thought(0, -1, -1), NONE);
        due("bad", x.thought(0, 1, 1), BAD);
    }

    private static void orderIs(WallPicks x, int captain, int slips, int... order) {
        due("slips of " + captain, x.order(captain, -1), slips);
        for (int i = 0; i < order.length; i++) {
            due("order of " + captain + " at " + i, x.order(captain, i), order[i]);
        }
        due("no such place", x.order(captain, order.length), NONE);
    }

    private static void orders() {
        promise = "29 order";
        WallPicks x = wallOf(1, 2, 3);
        orderIs(x, 2, 0, 0, 1, 2);
        told(x, 0, 2, 1);
        told(x, 1, 0);
        x.game(true);
        orderIs(x, 0, 0, 2, 0, 1);
        orderIs(x, 1, 0, 0, 1, 2);
        x = wallOf(1, 2);
        told(x, 0, 0);
        x.game(true);
        orderIs(x, 0, 0, 0, 1);
        told(x, 0, 1);
        x.game(true);
        orderIs(x, 0, 1, 0, 1);
        x.game(true);
        orderIs(x, 0, 1, 1, 0);
        x = summers();
        orderIs(x, 0, 1, 0, 1, 2);
        orderIs(x, 1, 0, 0, 2, 1);
        orderIs(x, 2, 0, 0, 1, 2);
        told(x, 0, 2, 1);
        x.game(true);
        orderIs(x, 0, 1, 2, 0, 1);
        x.boy(0, 0, -1);
        orderIs(x, 0, 1, 2, 0, 1, 3);
        due("no such place", x.order(0, -2), NONE);
        due("no captain", x.order(3, 0), NONE);
        due("no captain", x.order(-1, -1), NONE);
        x.boy(0, 0, -1);
        x.boy(0, 0, -1);
        orderIs(x, 0, 1, 2, 0, 1, 3, 4, 5);
        x.boy(0, 0, -1);
        due("seven boys", x.order(0, -1), -9);
        due("ahead of no such place", x.order(0, 9), -9);
        due("behind no such captain", x.order(3, 0), NONE);
    }

    private static void lasts() {
        promise = "30 last";
        WallPicks x = summers();
        due("the last one", x.last(1), 2);
        due("never", x.last(0), 0);
        x.boy(0, 1, -1);
        x.game(false);
        due("not kept", x.last(3), 0);
        x.game(true);
        due("kept", x.last(3), 1);
        due("as it was", x.last(1), 2);
        due("no boy", x.last(4), NONE);
        due("no boy", x.last(-1), NONE);
    }

    // ---- acts, the image

    private static void actIs(WallPicks x, int act, int n, int want, int... bodies) {
        due("act " + act, x.act(1, act, n), want);
        due("bodies", x.count(6), bodies.length);
        for (int i = 0; i < bodies.length; i++) {
            due("trace " + i, x.trace(i), bodies[i]);
        }
        due("no more", x.trace(bodies.length), NONE);
    }

    private static WallPicks actors() {
        WallPicks x = new WallPicks();
        x.boy(0, 0, 1);
        x.boy(0, 0, 0);
        x.boy(0, 0, 1);
        x.boy(0, 0, -1);
        return x;
    }

    private static void acts() {
        promise = "31 act";
        WallPicks x = actors();
        actIs(x, 0, 5, 6, 1);
        actIs(x, 1, 5, 4, 2, 1);
        actIs(x, 2, 5, 8, 3, 2, 1);
        x.way(1, 1);
        actIs(x, 0, 5, 16, 11, 1);
        actIs(x, 1, 5, 14, 2, 11, 1);
        actIs(x, 2, 5, 28, 3, 2, 11, 1);
        actIs(x, 0, Integer.MAX_VALUE, 2147483646, 11, 1);
        x.way(1, 2);
        actIs(x, 0, 5, 6, 1);
        actIs(x, 1, 5, -4, 21, 2, 1);
        actIs(x, 2, 5, -8, 3, 21, 2, 1);
        actIs(x, 2, Integer.MIN_VALUE, 2, 3, 21, 2, 1);
        x.way(1, 3);
        actIs(x, 0, 5, 16, 11, 1);
        actIs(x, 1, 5, 14, 2, 11, 1);
        actIs(x, 2, 5, 29, 41, 3, 2, 11, 1, 11, 1);
        x.way(1, 4);
        actIs(x, 0, 5, 7, 51, 1);
        actIs(x, 1, 5, -5, 21, 2, 51, 1);
        actIs(x, 2, 5, -10, 3, 21, 2, 51, 1);
        x.way(1, 5);
        actIs(x, 0, 5, 6, 1);
        actIs(x, 1, 5, 4, 2, 1);
        actIs(x, 2, 5, 15, 31, 3, 2, 1);
        x.way(1, 6);
        actIs(x, 0, 5, 16, 11, 1);
        actIs(x, 1, 5, 16, 61, 2, 11, 1);
        actIs(x, 2, 5, 32, 3, 61, 2, 11, 1);
        due("who doesn't play", x.act(2, 2, 3), 10);
        due("who doesn't play", x.count(6), 3);
    }

    private static void traces() {
        promise = "32 trace";
        WallPicks x = actors();
        due("no act yet", x.trace(0), NONE);
        int[][] none = {{3, 0}, {-1, 0}, {0, 3}, {0, -1}};
        for (int[] one : none) {
            x.act(1, 2, 5);
            due("trace", x.trace(0), 3);
            due("trace", x.trace(2), 1);
            due("trace -1", x.trace(-1), NONE);
            due("trace 20", x.trace(20), NONE);
            due("no such captain, act", x.act(one[0], one[1], 5), 0);
            due("no trace then", x.trace(0), NONE);
            due("no bodies then", x.count(6), 0);
        }
    }

    private static void kinds() {
        promise = "33 as";
        WallPicks x = new WallPicks();
        int[][] under = {{0}, {0, 1}, {0, 2}, {0, 1, 3}, {0, 2, 4}, {0, 5}, {0, 1, 6}};
        for (int kind = 0; kind < 7; kind++) {
            x.way(2, kind);
            for (int k = 0; k < 7; k++) {
                int want = -6;
                for (int above : under[kind]) {
                    want = above == k ? kind : want;
                }
                due("kind " + kind + " as " + k, x.as(2, k), want);
            }
        }
        due("no captain", x.as(3, 0), NONE);
        due("no captain", x.as(-1, 0), NONE);
        due("no kind", x.as(0, 7), NONE);
        due("no kind", x.as(0, -1), NONE);
    }

    private static void images() {
        promise = "34 image, 35 undo";
        WallPicks x = summers();
        refused(x, "no image", STATE, WallPicks::undo);
        settle(x, 1, "mark 7 n=1");
        x.play(3);
        x.turns(3);
        x.told(2);
        x.told(1);
        for (int captain = 0; captain < 3; captain++) {
            told(x, captain, captain == 0 ? 2 : 1);
        }
        x.give(0, 2);
        x.row(1);
        feed(x, "lack ");
        x.act(0, 2, 1);
        String then = look(x);
        due("image", x.image(), 3);
        due("an image changes nothing", look(x).equals(then) ? 1 : 0, 1);
        for (int again = 0; again < 2; again++) {
            x.boy(1, 20, 1);
            x.play(2);
            x.turns(2);
            x.told(-1);
            x.told(0);
            x.way(2, 4);
            x.list(0, -1);
            x.list(1, 0);
            x.list(2, -1);
            x.row(1);
            x.yard();
            settle(x, 1, "mark 9 n=2");
            x.has(0, 0);
            x.game(true);
            x.feed(7, 3);
            due("four boys", x.count(0), 4);
            x.act(0, 2, 1);
            due("undo", x.undo(), 3);
            due("all is as it was", look(x).equals(then) ? 1 : 0, 1);
            due("a told row", x.turn(0), 2);
            due("a list", x.picks(0), 2);
            due("a list", x.picks(1), 1);
            due("a list", x.picks(2), 1);
        }
        due("the tape", x.feed(0x312030L, 3), 8);
        due("the tape", x.yard(), 1);
        due("the row", x.row(0), 2);
        due("a list", x.list(0, 0), 2);
        due("a list", x.list(1, 0), 2);
        due("a list", x.list(2, 0), 2);
        x.act(0, 0, 1);
        due("undo", x.undo(), 3);
        due("the trace stays", x.count(6), 1);
        due("the trace stays", x.trace(0), 1);
        x.boy(0, 0, 0);
        due("another image", x.image(), 4);
        x.play(2);
        due("undo", x.undo(), 4);
        due("undo", x.count(2), 3);
    }

    private static void counts() {
        promise = "36 count";
        WallPicks x = summers();
        settle(x, 0, "lack 1 1");
        feed(x, "both");
        x.play(3);
        x.give(1, 2);
        x.act(0, 1, 0);
        int[] want = {3, 1, 3, 2, 2, 4, 2, NONE};
        for (int i = 0; i < want.length; i++) {
            due("count " + i, x.count(i), want[i]);
        }
        due("count -1", x.count(-1), NONE);
    }
}
