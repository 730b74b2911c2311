/** Random runs of calls, each answer compared with the plain model's. */
public final class RandomRunsTest {
    private static final int SMALL_RUNS = 1200;
    private static final int LARGE_RUNS = 10;
    private static final int TEXTS = 3000;
    private static final String NOISE = "markbothlc psfn<=>0123456789!()&|; ;;x\u0000\u00ff";

    private static int wrong;
    private static int calls;
    private static long seed;
    private static int run;

    private RandomRunsTest() {
    }

    public static void main(String[] args) {
        for (run = 0; run < SMALL_RUNS; run++) {
            compare(run % 7, 300);
        }
        for (; run < SMALL_RUNS + LARGE_RUNS; run++) {
            compare(8, 150);
        }
        for (; run < SMALL_RUNS + LARGE_RUNS + TEXTS; run++) {
            seed = run;
            readText(new WallPicks(), new PlainWall(), any(4) == 0 ? yard() : broken(yard()));
        }
        System.out.println("RandomRunsTest: " + (calls - wrong) + " passed, " + wrong + " failed");
        if (wrong > 0) {
            System.exit(1);
        }
    }

    private static int any(int limit) {
        seed = seed * 6364136223846793005L + 1442695040888963407L;
        return (int) ((seed >>> 33) % limit);
    }

    /** Mostly from 0 to below the limit, now and then a little or far beyond. */
    private static int about(int limit) {
        switch (any(40)) {
            case 0: return limit + any(2);
            case 1: return -1 - any(2);
            case 2: return any(2) == 0 ? Integer.MAX_VALUE : Integer.MIN_VALUE;
            default: return any(limit);
        }
    }

    private static void compare(int boys, int length) {
        seed = run * 7919L + 17;
        WallPicks x = new WallPicks();
        PlainWall y = new PlainWall();
        for (int i = 0; i < length; i++) {
            if (any(i < 20 ? 3 : 40) == 0) {
                wall(x, y, boys);
            } else if (any(i < 20 ? 3 : 25) == 0) {
                readText(x, y, any(6) == 0 ? broken(yard()) : yard());
                int captain = about(3);
                int yard = about(7) - 1;
                due("has", x.has(captain, yard), y.has(captain, yard));
            } else if (any(2) == 0) {
                set(any(12), x, y);
            } else {
                ask(any(20), x, y, boys == 8 && any(4) > 0);
            }
            for (int what = -1; what < 8; what++) {
                due("count " + what, x.count(what), y.count(what));
            }
        }
    }

    private static void wall(WallPicks x, PlainWall y, int boys) {
        // The slow model has no time for more boys; ones that are refused come all the same.
        int place = x.count(0) < boys || boys == 8 ? about(4) : -1;
        int strength = about(21);
        int friend = about(4) - 1;
        due("boy", x.boy(place, strength, friend), y.boy(place, strength, friend));
    }

    private static void readText(WallPicks x, PlainWall y, String text) {
        for (int i = 0; i < text.length(); i += 8) {
            int n = Math.min(8, text.length() - i);
            long w = any(2) - 1L;
            for (int j = 0; j < n; j++) {
                w = w << 8 | text.charAt(i + j);
            }
            due("feed " + text, x.feed(w, n), y.feed(w, n));
        }
        if (any(6) > 0) {
            due("yard " + text, x.yard(), y.yard());
        } else {
            int n = about(9);
            due("feed", x.feed(seed, n), y.feed(seed, n));
        }
    }

    private static void set(int what, WallPicks x, PlainWall y) {
        int captain = about(3);
        int n = about(8);
        int kind = about(4);
        boolean kept = any(3) > 0;
        switch (what) {
            case 0: due("way", x.way(captain, n), y.way(captain, n)); break;
            case 1: due("turns", x.turns(kind), y.turns(kind)); break;
            case 2: due("told", x.told(kind - 1), y.told(kind - 1)); break;
            case 3: due("list", x.list(captain, n), y.list(captain, n)); break;
            case 4: due("give", x.give(n, kind - 1), y.give(n, kind - 1)); break;
            case 5: due("game", x.game(kept), y.game(kept)); break;
            case 6: due("row", x.row(n), y.row(n)); break;
            case 7: due("play", x.play(captain + 1), y.play(captain + 1)); break;
            case 8: due("trade", x.trade(captain, kind), y.trade(captain, kind)); break;
            case 9: due("has", x.has(captain, kind), y.has(captain, kind)); break;
            case 10:
                if (any(3) == 0) {
                    due("image", x.image(), y.image());
                }
                break;
            default:
                if (any(3) == 0) {
                    due("undo", x.undo(), y.undo());
                }
        }
    }

    private static void ask(int what, WallPicks x, PlainWall y, boolean quick) {
        int captain = about(3);
        int other = about(3);
        int n = about(8);
        int bits = about(1 << x.count(0));
        int three = about(3);
        if (quick && what < 4) {
            return;
        }
        switch (what) {
            case 0: due("judged", x.judged(three), y.judged(three)); break;
            case 1: due("first", x.first(three), y.first(three)); break;
            case 2: due("fairest", x.fairest(), y.fairest()); break;
            case 3: due("best", x.best(), y.best()); break;
            case 4: due("value", x.value(captain), y.value(captain)); break;
            case 5: case 6: due("worth", x.worth(captain, bits), y.worth(captain, bits)); break;
            case 7: case 8: due("picks", x.picks(captain), y.picks(captain)); break;
            case 9: due("even", x.even(three), y.even(three)); break;
            case 10: due("cut", x.cut(captain, other, three), y.cut(captain, other, three)); break;
            case 11: due("trades", x.trades(captain, other, three), y.trades(captain, other, three)); break;
            case 12: due("thought", x.thought(captain, n, three), y.thought(captain, n, three)); break;
            case 13: due("order", x.order(captain, n - 1), y.order(captain, n - 1)); break;
            case 14: due("last", x.last(n), y.last(n)); break;
            case 15: acts(x, y, captain, other, any(5) == 0 ? Integer.MAX_VALUE - n : bits - 100); break;
            case 16: due("as", x.as(captain, n), y.as(captain, n)); break;
            case 17: due("of", x.of(n, three), y.of(n, three)); break;
            case 18: due("side", x.side(captain), y.side(captain)); break;
            default: due("turn", x.turn(n), y.turn(n));
        }
    }

    private static void acts(WallPicks x, PlainWall y, int captain, int act, int n) {
        due("act", x.act(captain, act, n), y.act(captain, act, n));
        for (int i = -1; i < 22; i++) {
            due("trace " + i, x.trace(i), y.trace(i));
        }
    }

    private static String yard() {
        StringBuilder text = new StringBuilder();
        int clauses = any(8) == 0 ? 10 + any(2) : 1 + any(3);
        for (int i = 0; i < clauses; i++) {
            text.append(i == 0 ? "" : ";");
            int kind = any(clauses < 10 ? 4 : 3);
            if (kind == 0) {
                text.append("both ").append(number()).append(' ').append(any(8)).append(' ').append(any(8));
            } else if (kind == 1 || clauses > 9) {
                text.append("lack ").append(number()).append(' ').append(any(4));
            } else {
                text.append("mark ").append(number()).append(' ').append(wish(any(6)));
            }
        }
        return text.substring(0, Math.min(text.length(), 120));
    }

    private static int number() {
        return any(3) == 0 ? any(100) : any(22);
    }

    private static String wish(int depth) {
        int kind = depth == 0 ? 0 : any(6);
        if (kind == 1) {
            return "!" + wish(depth - 1);
        }
        if (kind == 2) {
            return "(" + wish(depth - 1) + ")";
        }
        if (kind > 3) {
            return wish(depth - 1) + "&|".charAt(any(2)) + wish(depth - 1);
        }
        int what = any(4);
        int[] limits = {4, 21, 4, 8};
        int number = any(8) == 0 ? any(100) : what == 2 && any(2) == 0 ? 9 : any(limits[what]);
        return "psfn".substring(what, what + 1) + "<=>".charAt(any(3)) + number;
    }

    private static String broken(String yard) {
        StringBuilder text = new StringBuilder(yard);
        for (int i = any(3); i >= 0; i--) {
            int at = any(text.length() + 1);
            char sign = NOISE.charAt(any(NOISE.length()));
            int kind = any(5);
            if (kind == 0 || at == text.length()) {
                text.insert(at, sign);
            } else if (kind == 1) {
                text.deleteCharAt(at);
            } else if (kind == 2) {
                text.setCharAt(at, sign);
            } else if (kind == 3) {
                text.setLength(Math.max(at, 1));
            } else {
                text.insert(at, "!(!(".substring(any(3)));
            }
        }
        return text.substring(0, Math.min(text.length(), 120));
    }

    private static void due(String call, int got, int want) {
        calls++;
        if (got != want) {
            wrong++;
            if (wrong < 40) {
                System.out.println("run " + run + ": " + call + " answered " + got + ", due is " + want);
            }
        }
    }
}
