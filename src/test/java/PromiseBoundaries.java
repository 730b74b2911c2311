/** The boundaries that the document's promises name, 1 to 36. */
final class PromiseBoundaries extends Sentences {
    private static final int[] NO_CAPTAIN = {-1, 3, LOW, HIGH};
    private static final int[] NO_WHAT = {-1, 3, LOW, HIGH};

    private PromiseBoundaries() {
    }

    static void run() {
        newObject();
        boysAndPlay();
        tape();
        yards();
        turns();
        ways();
        sidesNow();
        games();
        best();
        rows();
        firsts();
        shares();
        summers();
        acts();
        image();
        counts();
    }

    /** A call with one number of its own. */
    private interface Asked {
        int on(WallPicks x, int n);
    }

    private static void refusedFor(int[] numbers, String call, int want, Asked made) {
        for (int n : numbers) {
            refused(PromiseBoundaries::some, call + ", " + n, want, x -> made.on(x, n));
        }
    }

    private static int[] beyond(int first, int last) {
        return new int[] {first - 1, last + 1, LOW, HIGH};
    }

    // ---- 1 to 8

    private static void newObject() {
        promise(1, "An empty wall, two captains.", () -> {
            WallPicks x = new WallPicks();
            int[] counts = {0, 0, 2, 0, 0, 0, 0};
            for (int what = 0; what < counts.length; what++) {
                due("count " + what, x.count(what), counts[what]);
            }
            due("side 0", x.side(0), 0);
            due("side 1", x.side(1), 0);
            due("side 2", x.side(2), NONE);
            due("boy 0", x.of(0, 0), NONE);
            due("yard 0", x.has(0, 0), NONE);
            due("body 0", x.trace(0), NONE);
            due("image", x.undo(), STATE);
            for (int captain = 0; captain < 3; captain++) {
                due("kind", x.as(captain, 0), 0);
                due("yard", x.has(captain, -1), NOBODY);
                due("list", x.list(captain, 0), 1);
            }
            due("turns", x.turns(0), 0);
            due("told", x.told(0), 1);
            due("row", x.row(0), 1);
            due("tape", x.feed('m', 1), 1);
        });
    }

    private static void boysAndPlay() {
        promise(2, "A BOY: his number.", () -> {
            WallPicks x = new WallPicks();
            due("the first", x.boy(0, 0, -1), 0);
            refused(PromiseBoundaries::some, "one out", BAD, y -> y.boy(0, 21, 0));
            due("a refused one takes no number", x.boy(0, 21, 0), BAD);
            due("the second", x.boy(0, 0, -1), 1);
            for (int i = 2; i < 8; i++) {
                due("the next", x.boy(0, 0, -1), i);
            }
        });
        promise(2, "NONE: place, friend (-1: none; 0 .. 2); BAD: strength; FULL.", () -> {
            WallPicks x = new WallPicks();
            due("the least of all", x.boy(0, 0, -1), 0);
            due("the most of all", x.boy(3, 20, 2), 1);
            refusedFor(beyond(0, 3), "place", NONE, (y, n) -> y.boy(n, 0, 0));
            refusedFor(beyond(-1, 2), "friend", NONE, (y, n) -> y.boy(0, 0, n));
            refusedFor(beyond(0, 20), "strength", BAD, (y, n) -> y.boy(0, n, 0));
            refused(PromiseBoundaries::some, "place, strength", NONE, y -> y.boy(-1, -1, 0));
            refused(PromiseBoundaries::some, "friend, strength", NONE, y -> y.boy(0, -1, -2));
            refused(PromiseBoundaries::eight, "full", FULL, y -> y.boy(3, 20, 2));
            refused(PromiseBoundaries::eight, "strength, full", BAD, y -> y.boy(3, 21, 2));
            refused(PromiseBoundaries::eight, "friend, full", NONE, y -> y.boy(3, 20, 3));
        });
        promise(3, "Of a BOY what 0 PLACE, 1 STRENGTH, 2 FRIEND (-5: none). NONE.", () -> {
            WallPicks x = new WallPicks();
            x.boy(0, 0, -1);
            x.boy(3, 20, 2);
            x.boy(1, 1, 0);
            int[][] want = {{0, 0, NOBODY}, {3, 20, 2}, {1, 1, 0}};
            for (int boy = 0; boy < want.length; boy++) {
                for (int what = 0; what < 3; what++) {
                    due("of " + boy + ", " + what, x.of(boy, what), want[boy][what]);
                }
            }
            refusedFor(beyond(0, 3), "of boy", NONE, (y, n) -> y.of(n, 0));
            refusedFor(NO_WHAT, "of what", NONE, (y, n) -> y.of(0, n));
        });
        promise(4, "So many CAPTAINS PLAY (2, 3, the same number, too; SIDES NOW are empty then): how many did.", () -> {
            WallPicks x = wallOf(1, 2);
            int[] numbers = {2, 3, 3, 2, 2};
            int before = 2;
            for (int n : numbers) {
                x.give(0, before - 1);
                x.give(1, 0);
                due("nobody is left", x.count(4), 0);
                due("play " + n, x.play(n), before);
                due("all are left", x.count(4), 2);
                for (int captain = 0; captain < n; captain++) {
                    due("an empty side", x.side(captain), 0);
                }
                due("of nobody", x.side(n), NONE);
                before = n;
            }
        });
        promise(4, "BAD.", () -> refusedFor(new int[] {1, 4, 0, -1, LOW, HIGH}, "play", BAD, WallPicks::play));
    }

    private static void tape() {
        promise(5, "The n lowest bytes of w, the highest first, come behind THE TAPE's: how many it has.", () -> {
            String text = "lack 7 0";
            for (int n = 1; n <= 8; n++) {
                WallPicks x = new WallPicks();
                for (int i = 0; i < 8; i += n) {
                    long w = i % 2 - 1;
                    int size = Math.min(n, 8 - i);
                    for (int j = i; j < i + size; j++) {
                        w = w << 8 | text.charAt(j);
                    }
                    due("feed of " + size, x.feed(w, size), i + size);
                }
                due("the yard is read", x.yard(), 0);
                due("the yard is had", x.has(0, 0), NOBODY);
                due("it is that text", x.worth(0, 0), -7);
            }
            WallPicks x = new WallPicks();
            due("the highest bit of all", x.feed(Long.MIN_VALUE | 'l', 8), 8);
            due("is the first byte's", x.yard(), -10);
            due("a byte of 255", x.feed(-1L, 1), 1);
            due("is no yard", x.yard(), -10);
        });
        promise(5, "BAD: n not 1 .. 8; FULL.", () -> {
            WallPicks x = new WallPicks();
            due("the least n", x.feed(0, 1), 1);
            due("the most n", x.feed(0, 8), 9);
            refusedFor(beyond(1, 8), "feed n", BAD, (y, n) -> y.feed(0, n));
            refusedFor(new int[] {8 * 15 + 1, 64, 256 + 1}, "feed n", BAD, (y, n) -> y.feed(0, n));
            for (int n = 1; n <= 8; n++) {
                int size = 120 - n;
                int more = n;
                WallPicks y = after(z -> fedWith(z, size));
                due("the last " + n, y.feed(0, n), 120);
                refused(z -> fedWith(z, size + 1), "one beyond, by " + n, FULL, z -> z.feed(0, more));
                refused(z -> fedWith(z, 120), "beyond, by " + n, FULL, z -> z.feed(0, more));
            }
            refused(z -> fedWith(z, 120), "bad, full", BAD, z -> z.feed(0, 0));
        });
    }

    private static void fedWith(WallPicks x, int size) {
        for (int i = 0; i < size; i += 8) {
            x.feed('l', Math.min(8, size - i));
        }
    }

    private static void yards() {
        promise(6, "THE TAPE, which is empty then (by a FAULT, too), is a YARD: its number", () -> {
            WallPicks x = new WallPicks();
            for (int i = 0; i < 6; i++) {
                feed(x, "lack " + i + " 0");
                due("yard", x.yard(), i);
                due("the tape is empty", x.count(5), 0);
                feed(x, "lack 0 4");
                due("a fault", x.yard(), i < 5 ? -17 : FULL);
                due("the tape is empty, but ahead of FULL", x.count(5), i < 5 ? 0 : 8);
            }
            due("a fault is no yard", x.count(1), 6);
        });
        promise(6, "-10 less the FAULT", () -> {
            due("at 0", yardOf(new WallPicks(), ""), -10);
            due("at 1", yardOf(new WallPicks(), "l"), -11);
            due("at 119", yardOf(new WallPicks(), "mark 1 p=11" + "|p=1".repeat(27) + "p"), -129);
            due("at 120", yardOf(new WallPicks(), "mark 1 p=11" + "|p=1".repeat(27) + "&"), -130);
        });
        promise(6, "FULL (ahead of all; THE TAPE stays)", () -> {
            History full = x -> {
                for (int i = 0; i < 6; i++) {
                    yardOf(x, "lack 1 0");
                }
            };
            refused(full, "an empty tape", FULL, WallPicks::yard);
            for (String text : new String[] {"lack 1 0", "lack 1 4", "x"}) {
                History fed = x -> {
                    full.on(x);
                    feed(x, text);
                };
                refused(fed, "yard", FULL, WallPicks::yard);
                WallPicks x = after(fed);
                x.yard();
                due("the tape stays", x.feed(0, 1), text.length() + 1);
            }
            WallPicks x = new WallPicks();
            x.image();
            full.on(x);
            feed(x, "lack 3 0");
            due("full", x.yard(), FULL);
            x.undo();
            due("as the image is", yardOf(x, "lack 3 0"), 0);
        });
        promise(7, "A CAPTAIN (0 .. 2, playing or not) has a YARD (-1: none): which he had (-5: none). NONE.", () -> {
            WallPicks x = wallOf(3);
            yardOf(x, "mark 10 n=0");
            yardOf(x, "mark 20 n=0");
            for (int captain = 0; captain < 3; captain++) {
                due("the first", x.has(captain, 0), NOBODY);
                due("worth", x.worth(captain, 1), 13);
                due("the last", x.has(captain, 1), 0);
                due("worth", x.worth(captain, 1), 23);
                due("the same", x.has(captain, 1), 1);
                due("none", x.has(captain, -1), 1);
                due("worth", x.worth(captain, 1), 3);
                due("none had", x.has(captain, -1), NOBODY);
            }
            refusedFor(NO_CAPTAIN, "has, captain", NONE, (y, n) -> y.has(n, 0));
            refusedFor(beyond(-1, 1), "has, yard", NONE, (y, n) -> y.has(0, n));
            refused(PromiseBoundaries::eight, "no yards", NONE, y -> y.has(0, 0));
        });
        promise(8, "WORTH of a SIDE (bits) to a CAPTAIN (0 .. 2). -1001: NONE; -1002: BAD.", () -> {
            WallPicks x = after(PromiseBoundaries::eight);
            for (int captain = 0; captain < 3; captain++) {
                due("nobody", x.worth(captain, 0), 0);
                due("the last one", x.worth(captain, 128), 8);
                due("all", x.worth(captain, 255), 36);
            }
            refusedFor(NO_CAPTAIN, "worth, captain", -1001, (y, n) -> y.worth(n, 0));
            refusedFor(beyond(0, 15), "worth, side", -1002, (y, n) -> y.worth(0, n));
            refused(PromiseBoundaries::eight, "worth, side", -1002, y -> y.worth(0, 256));
            refused(PromiseBoundaries::some, "worth, captain, side", -1001, y -> y.worth(-1, 16));
        });
    }

    // ---- 9 to 13

    private static void turns() {
        promise(9, "TURNS (0 .. 3): which they were. NONE.", () -> {
            WallPicks x = new WallPicks();
            int[] kinds = {0, 3, 3, 2, 1, 0};
            int before = 0;
            for (int kind : kinds) {
                due("turns", x.turns(kind), before);
                before = kind;
            }
            refusedFor(beyond(0, 3), "turns", NONE, WallPicks::turns);
        });
        promise(10, "A CAPTAIN (0 .. 2) comes to the ROW of TURNS: how many (-1: it is empty then, 0). NONE; FULL.", () -> {
            WallPicks x = new WallPicks();
            x.play(3);
            x.turns(3);
            due("empty already", x.told(-1), 0);
            for (int i = 0; i < 8; i++) {
                due("told", x.told(2 - i % 3), i + 1);
            }
            turnsAre(x, 2, 1, 0, 2, 1, 0, 2, 1);
            due("empty", x.told(-1), 0);
            turnsAre(x, 0, 1, 2, 0, 1, 2, 0, 1);
            due("anew", x.told(2), 1);
            turnsAre(x, 2, 1, 2, 0, 1, 2, 0, 1);
            refusedFor(beyond(-1, 2), "told", NONE, WallPicks::told);
            History full = y -> {
                for (int i = 0; i < 8; i++) {
                    y.told(2);
                }
            };
            for (int captain = 0; captain < 3; captain++) {
                int ninth = captain;
                refused(full, "a ninth", FULL, y -> y.told(ninth));
            }
            refused(full, "none, full", NONE, y -> y.told(-2));
            refused(full, "none, full", NONE, y -> y.told(3));
            due("a full one is empty", after(full).told(-1), 0);
        });
        promise(11, "Which CAPTAIN takes the t-th BOY (0 .. 7). NONE.", () -> {
            WallPicks x = new WallPicks();
            due("the first", x.turn(0), 0);
            due("the last", x.turn(7), 1);
            refusedFor(beyond(0, 7), "turn", NONE, WallPicks::turn);
            refused(PromiseBoundaries::eight, "turn", NONE, y -> y.turn(8));
        });
    }

    private static void ways() {
        promise(12, "A CAPTAIN (0 .. 2) has a WAY: which KIND he had. NONE.", () -> {
            WallPicks x = new WallPicks();
            for (int captain = 0; captain < 3; captain++) {
                int before = 0;
                for (int kind : new int[] {6, 6, 0, 1, 5}) {
                    due("way", x.way(captain, kind), before);
                    before = kind;
                }
            }
            refusedFor(NO_CAPTAIN, "way, captain", NONE, (y, n) -> y.way(n, 0));
            refusedFor(beyond(0, 6), "way, kind", NONE, (y, n) -> y.way(0, n));
        });
        promise(13, "A BOY (0 .. 7, there or not) comes to the LIST of a CAPTAIN (0 .. 2): "
            + "how many (-1: it is empty then, 0). NONE; FULL.", () -> {
            WallPicks x = wallOf(1, 2, 3);
            for (int captain = 0; captain < 3; captain++) {
                due("empty already", x.list(captain, -1), 0);
                due("the last, not there", x.list(captain, 7), 1);
                due("the last, there", x.list(captain, 2), 2);
                due("the first", x.list(captain, 0), 3);
                for (int i = 4; i <= 8; i++) {
                    due("the same", x.list(captain, 0), i);
                }
            }
            x.way(0, 5);
            x.way(1, 5);
            due("by the list", x.picks(0), 2);
            due("empty", x.list(0, -1), 0);
            due("by no list", x.picks(0), 0);
            due("another's stays", x.picks(1), 2);
            due("anew", x.list(0, 1), 1);
            due("by the new list", x.picks(0), 1);
            refusedFor(NO_CAPTAIN, "list, captain", NONE, (y, n) -> y.list(n, 0));
            refusedFor(NO_CAPTAIN, "list, captain", NONE, (y, n) -> y.list(n, -1));
            refusedFor(beyond(-1, 7), "list, boy", NONE, (y, n) -> y.list(2, n));
            History full = y -> picksAs(y, 1, 7, 7, 7, 7, 7, 7, 7, 7);
            refused(full, "a ninth", FULL, y -> y.list(1, 0));
            refused(full, "none, full", NONE, y -> y.list(1, 8));
            due("another's isn't full", after(full).list(0, 0), 1);
            due("a full one is empty", after(full).list(1, -1), 0);
        });
    }

    // ---- 14 to 17

    private static void sidesNow() {
        promise(14, "a CAPTAIN that PLAYS has a BOY, whom nobody else has then (captain -1: nobody has him): "
            + "who had him (-5: nobody). NONE.", () -> {
            WallPicks x = after(PromiseBoundaries::eight);
            x.play(3);
            for (int boy = 0; boy < 8; boy += 7) {
                int before = NOBODY;
                for (int captain : new int[] {-1, 0, 1, 2, 2, 0, -1, -1, 2}) {
                    due("give " + boy + " to " + captain, x.give(boy, captain), before);
                    for (int i = 0; i < 3; i++) {
                        due("has him", x.side(i) >> boy & 1, i == captain ? 1 : 0);
                    }
                    before = captain < 0 ? NOBODY : captain;
                }
            }
            due("each has what he had", x.side(2), 129);
            refusedFor(beyond(0, 3), "give, boy", NONE, (y, n) -> y.give(n, 0));
            refusedFor(beyond(0, 3), "give, boy to nobody", NONE, (y, n) -> y.give(n, -1));
            refusedFor(beyond(-1, 2), "give, captain", NONE, (y, n) -> y.give(0, n));
            refused(PromiseBoundaries::eight, "who doesn't play", NONE, y -> y.give(0, 2));
            refused(PromiseBoundaries::eight, "a boy who isn't there", NONE, y -> y.give(8, 0));
            refused(y -> { }, "an empty wall", NONE, y -> y.give(0, 0));
        });
        promise(15, "SIDE NOW of a CAPTAIN, as bits. NONE.", () -> {
            WallPicks x = after(PromiseBoundaries::eight);
            x.play(3);
            x.give(0, 0);
            x.give(7, 2);
            for (int boy = 1; boy < 7; boy++) {
                x.give(boy, 1);
            }
            due("the first", x.side(0), 1);
            due("those between", x.side(1), 126);
            due("the last", x.side(2), 128);
            for (int boy = 0; boy < 8; boy++) {
                x.give(boy, 2);
            }
            due("nobody", x.side(0), 0);
            due("all", x.side(2), 255);
            refusedFor(NO_CAPTAIN, "side", NONE, WallPicks::side);
            refused(PromiseBoundaries::eight, "who doesn't play", NONE, y -> y.side(2));
        });
        promise(16, "if he takes the TAKEN-th BOY, SIDES being as NOW (whoever's turn it is)", () -> {
            WallPicks x = wallOf(5, 4, 3, 2);
            settle(x, 1, "mark 50 n=2");
            for (int captain = 0; captain < 2; captain++) {
                x.way(captain, 2);
            }
            due("0, as 1 is behind", x.picks(0), 2);
            due("1, as he himself is behind", x.picks(1), 2);
            x.give(0, 1);
            due("0, as he himself is behind", x.picks(0), 1);
            due("1, as 0 is behind", x.picks(1), 1);
            x.give(0, -1);
            due("sides being as now", x.picks(0), 2);
        });
        promise(16, "-5: nobody is LEFT. NONE.", () -> {
            due("an empty wall", new WallPicks().picks(0), NOBODY);
            WallPicks x = after(PromiseBoundaries::eight);
            for (int kind = 0; kind < 7; kind++) {
                x.way(1, kind);
                for (int boy = 0; boy < 8; boy++) {
                    x.give(boy, boy % 2);
                }
                due("all are taken, " + kind, x.picks(1), NOBODY);
                x.give(7, -1);
                due("the last one is left, " + kind, x.picks(1), 7);
            }
            refusedFor(NO_CAPTAIN, "picks", NONE, WallPicks::picks);
            refused(PromiseBoundaries::eight, "who doesn't play", NONE, y -> y.picks(2));
        });
    }

    private static void games() {
        promise(17, "SIDES NOW are as it leaves them; how many BOYS there are.", () -> {
            due("nobody", new WallPicks().game(true), 0);
            WallPicks x = new WallPicks();
            x.play(3);
            for (int boys = 1; boys <= 8; boys++) {
                x.boy(0, 20, -1);
                due("game", x.game(boys % 2 == 0), boys);
                due("nobody is left", x.count(4), 0);
                due("nobody is twice", x.side(0) + x.side(1) + x.side(2), (1 << boys) - 1);
                due("the first", x.side(0) & 1, 1);
            }
        });
        promise(17, "(It is a SUMMER, if kept, there are BOYS, and fewer than 12 SUMMERS; with 12 the GAME goes, "
            + "and is none.)", () -> {
            WallPicks x = new WallPicks();
            x.game(true);
            due("without boys", x.count(3), 0);
            x.boy(0, 1, -1);
            x.game(false);
            due("not kept", x.count(3), 0);
            x.game(true);
            due("one boy, kept", x.count(3), 1);
            x.boy(0, 2, -1);
            for (int i = 2; i <= 12; i++) {
                x.game(true);
                due("kept", x.count(3), i);
            }
            due("the twelfth is one", x.last(1), 11);
            x.way(0, 1);
            x.play(2);
            due("with 12 the game goes", x.game(true), 2);
            due("side 0", x.side(0), 2);
            due("side 1", x.side(1), 1);
            due("and is none", x.count(3), 12);
            due("and is none", x.last(0), 1);
            due("and is none", x.last(1), 11);
        });
    }

    // ---- 18 to 23

    private static void best() {
        promise(18, "-5: nobody is LEFT.", () -> {
            due("an empty wall", new WallPicks().best(), NOBODY);
            WallPicks x = after(PromiseBoundaries::eight);
            for (int kind = 0; kind < 4; kind++) {
                x.turns(kind);
                for (int boy = 0; boy < 8; boy++) {
                    x.give(boy, 0);
                }
                due("all are taken", x.best(), NOBODY);
                x.give(0, -1);
                due("one is left", x.best(), 0);
                x.give(7, -1);
                due("two are left", x.best(), 7);
            }
        });
        promise(19, "VALUE of SIDES NOW to a CAPTAIN. -1001: NONE.", () -> {
            due("an empty wall", new WallPicks().value(1), 0);
            WallPicks x = after(PromiseBoundaries::eight);
            due("empty sides", x.value(0), 8 + 6 + 4 + 2);
            due("empty sides", x.value(1), 7 + 5 + 3 + 1);
            for (int boy = 0; boy < 7; boy++) {
                x.give(boy, 0);
            }
            due("one is left, whom 1 takes", x.value(0), 28);
            due("one is left, whom 1 takes", x.value(1), 8);
            x.give(7, 0);
            due("nobody is left", x.value(0), 36);
            due("nobody is left", x.value(1), 0);
            refusedFor(NO_CAPTAIN, "value", -1001, WallPicks::value);
            refused(PromiseBoundaries::eight, "who doesn't play", -1001, y -> y.value(2));
            x.play(3);
            due("who plays", x.value(2), 6 + 3);
        });
    }

    private static void rows() {
        promise(20, "A BOY (0 .. 7, there or not) comes to the ROW of picks: how many (-1: it is empty then, 0). "
            + "NONE; FULL.", () -> {
            WallPicks x = wallOf(1, 2);
            due("empty already", x.row(-1), 0);
            due("the first", x.row(0), 1);
            due("the last, not there", x.row(7), 2);
            for (int i = 3; i <= 8; i++) {
                due("row", x.row(1), i);
            }
            due("not there", x.judged(0), 1);
            due("empty", x.row(-1), 0);
            due("nothing to judge", x.judged(0), NOBODY);
            due("anew", x.row(1), 1);
            refusedFor(beyond(-1, 7), "row", NONE, WallPicks::row);
            History full = y -> {
                for (int i = 0; i < 8; i++) {
                    y.row(7);
                }
            };
            refused(full, "a ninth", FULL, y -> y.row(0));
            refused(full, "none, full", NONE, y -> y.row(8));
            refused(full, "none, full", NONE, y -> y.row(-2));
            due("a full one is empty", after(full).row(-1), 0);
        });
        promise(21, "Of the ROW of picks what 0 JUDGED, 1 SLIP (-5: none), 2 by how much (0). NONE.", () -> {
            WallPicks x = wallOf(9, 5, 4, 1);
            int[] none = {NOBODY, NOBODY, 0};
            int[] slipped = {2, 1, 1};
            for (int what = 0; what < 3; what++) {
                due("of an empty row " + what, x.judged(what), none[what]);
            }
            x.row(0);
            x.row(3);
            x.row(3);
            for (int what = 0; what < 3; what++) {
                due("of a row " + what, x.judged(what), slipped[what]);
            }
            x.row(-1);
            for (int what = 0; what < 3; what++) {
                due("of a row that is empty again " + what, x.judged(what), none[what]);
            }
            refusedFor(NO_WHAT, "judged", NONE, WallPicks::judged);
        });
    }

    private static void firsts() {
        promise(22, "FIRST by TURNS (0 .. 2). -1001: NONE.", () -> {
            WallPicks x = wallOf(5, 4, 4);
            x.turns(3);
            x.told(1);
            due("the first turns", x.first(0), 9 - 4);
            due("those between", x.first(1), 5 - 8);
            due("the last turns", x.first(2), 5 - 8);
            refusedFor(beyond(0, 2), "first", -1001, WallPicks::first);
        });
        promise(23, "FAIREST.", () -> {
            due("an empty wall", new WallPicks().fairest(), 0);
            due("0", wallOf(5, 5, 1).fairest(), 0);
            due("1", wallOf(5, 4, 4).fairest(), 1);
            WallPicks x = wallOf(20, 10, 9, 2, 1, 0);
            x.play(3);
            due("2", x.fairest(), 2);
            x.turns(3);
            for (int boy = 0; boy < 6; boy++) {
                x.give(boy, 0);
            }
            due("whatever the turns and sides now are", x.fairest(), 2);
            due("and they stay", x.turns(3), 3);
        });
    }

    // ---- 24 to 27

    private static void shares() {
        promise(24, "EVEN: what 0 the first SIDE, as bits, 1 how far apart. NONE.", () -> {
            due("nobody", new WallPicks().even(0), 0);
            due("nobody", new WallPicks().even(1), 0);
            WallPicks x = wallOf(20, 0);
            due("the first side", x.even(0), 1);
            due("how far apart", x.even(1), 20);
            refusedFor(beyond(0, 1), "even", NONE, WallPicks::even);
        });
        promise(25, "CUT by a for b (0 .. 2): what 0 the first SIDE, as bits, 1 what a has, as bits. "
            + "NONE; BAD: one CAPTAIN.", () -> {
            WallPicks x = wallOf(4, 4);
            for (int a = 0; a < 3; a++) {
                for (int b = 0; b < 3; b++) {
                    due("the first side", x.cut(a, b, 0), a == b ? BAD : 1);
                    due("what a has", x.cut(a, b, 1), a == b ? BAD : 2);
                }
            }
            refusedFor(NO_CAPTAIN, "cut, a", NONE, (y, n) -> y.cut(n, 0, 0));
            refusedFor(NO_CAPTAIN, "cut, b", NONE, (y, n) -> y.cut(0, n, 0));
            refusedFor(beyond(0, 1), "cut, what", NONE, (y, n) -> y.cut(0, 1, n));
            refusedFor(new int[] {0, 1, 2}, "cut, one captain", BAD, (y, n) -> y.cut(n, n, 0));
            refusedFor(NO_CAPTAIN, "cut, one who isn't", NONE, (y, n) -> y.cut(n, n, 0));
            refusedFor(beyond(0, 1), "cut, what, one captain", NONE, (y, n) -> y.cut(1, 1, n));
        });
        promise(26, "TRADES of a and b, that PLAY, SIDES NOW: what 0 how many there are, "
            + "1 the first (10 a's and b's; -5: none).", () -> {
            WallPicks x = new WallPicks();
            due("an empty wall", x.trades(0, 1, 0), 0);
            due("an empty wall", x.trades(0, 1, 1), NOBODY);
            eight(x);
            settle(x, 0, "mark 50 n=0");
            settle(x, 1, "mark 50 n=7");
            x.give(7, 0);
            x.give(0, 1);
            due("one", x.trades(0, 1, 0), 1);
            due("the last and the first", x.trades(0, 1, 1), 70);
            due("the first and the last", x.trades(1, 0, 1), 7);
            x.trade(0, 1);
            due("none", x.trades(0, 1, 0), 0);
            due("none", x.trades(0, 1, 1), NOBODY);
            settle(x, 0, "mark 50 n>3");
            settle(x, 1, "mark 50 n<4");
            for (int boy = 0; boy < 8; boy++) {
                x.give(boy, boy < 4 ? 0 : 1);
            }
            due("the most", x.trades(0, 1, 0), 16);
            due("the first", x.trades(0, 1, 1), 4);
            x.give(0, -1);
            x.give(4, -1);
            due("of those whom they have", x.trades(0, 1, 0), 9);
            due("the first", x.trades(0, 1, 1), 15);
        });
        promise(26, "NONE; BAD: one CAPTAIN.", () -> {
            refusedFor(NO_CAPTAIN, "trades, a", NONE, (y, n) -> y.trades(n, 0, 0));
            refusedFor(NO_CAPTAIN, "trades, b", NONE, (y, n) -> y.trades(0, n, 0));
            refusedFor(beyond(0, 1), "trades, what", NONE, (y, n) -> y.trades(0, 1, n));
            refusedFor(new int[] {0, 1, 2}, "trades, one captain", BAD, (y, n) -> y.trades(n, n, 0));
            refusedFor(NO_CAPTAIN, "trades, one who isn't", NONE, (y, n) -> y.trades(n, n, 0));
            refusedFor(beyond(0, 1), "trades, what, one captain", NONE, (y, n) -> y.trades(1, 1, n));
            refused(PromiseBoundaries::eight, "a doesn't play", NONE, y -> y.trades(2, 0, 0));
            refused(PromiseBoundaries::eight, "b doesn't play", NONE, y -> y.trades(0, 2, 0));
            refused(PromiseBoundaries::eight, "neither plays", NONE, y -> y.trades(2, 2, 0));
        });
        promise(27, "TRADE till there is none: how many. NONE; BAD.", () -> {
            due("an empty wall", new WallPicks().trade(1, 0), 0);
            WallPicks x = new WallPicks();
            eight(x);
            x.play(3);
            settle(x, 1, "mark 50 n=0");
            settle(x, 2, "mark 50 n=7");
            x.give(7, 1);
            x.give(0, 2);
            due("two others", x.trade(0, 1), 0);
            due("one", x.trade(1, 2), 1);
            due("side 1", x.side(1), 1);
            due("side 2", x.side(2), 128);
            due("none more", x.trade(2, 1), 0);
            refusedFor(NO_CAPTAIN, "trade, a", NONE, (y, n) -> y.trade(n, 0));
            refusedFor(NO_CAPTAIN, "trade, b", NONE, (y, n) -> y.trade(0, n));
            refusedFor(new int[] {0, 1, 2}, "trade, one captain", BAD, (y, n) -> y.trade(n, n));
            refusedFor(NO_CAPTAIN, "trade, one who isn't", NONE, (y, n) -> y.trade(n, n));
            refused(PromiseBoundaries::eight, "a doesn't play", NONE, y -> y.trade(2, 0));
            refused(PromiseBoundaries::eight, "b doesn't play", NONE, y -> y.trade(0, 2));
            refused(PromiseBoundaries::eight, "neither plays", NONE, y -> y.trade(2, 2));
        });
    }

    // ---- 28 to 30

    private static void summers() {
        promise(28, "NONE: captain (0 .. 2), boys; BAD: one BOY.", () -> {
            WallPicks x = after(PromiseBoundaries::eight);
            x.play(3);
            x.game(true);
            due("0 took the first", x.thought(0, 0, 7), 1);
            due("1 took the last", x.thought(1, 7, 0), 0);
            due("1 took the last but three", x.thought(1, 4, 7), 1);
            due("2 took the last but two", x.thought(2, 5, 7), 1);
            refusedFor(NO_CAPTAIN, "thought, captain", NONE, (y, n) -> y.thought(n, 0, 1));
            refusedFor(beyond(0, 3), "thought, a", NONE, (y, n) -> y.thought(0, n, 1));
            refusedFor(beyond(0, 3), "thought, b", NONE, (y, n) -> y.thought(0, 1, n));
            refusedFor(new int[] {0, 1, 2, 3}, "thought, one boy", BAD, (y, n) -> y.thought(0, n, n));
            refusedFor(beyond(0, 3), "thought, one boy who isn't", NONE, (y, n) -> y.thought(0, n, n));
            refusedFor(NO_CAPTAIN, "thought, captain, one boy", NONE, (y, n) -> y.thought(n, 1, 1));
            refused(PromiseBoundaries::eight, "a ninth", NONE, y -> y.thought(0, 0, 8));
        });
        promise(29, "ORDER of a CAPTAIN (0 .. 2): the BOY at place i (i -1: how many SLIPS). "
            + "NONE: captain; -9; NONE: no such i.", () -> {
            WallPicks x = wallOf(1, 2, 3, 4, 5, 6);
            x.play(3);
            x.turns(1);
            for (int captain = 0; captain < 3; captain++) {
                picksAs(x, captain, 5, 4, 3, 2, 1, 0);
            }
            x.game(true);
            int[][] want = {{0, 5, 0, 1, 2, 3, 4}, {0, 4, 1, 0, 2, 3, 5}, {0, 3, 2, 0, 1, 4, 5}};
            for (int captain = 0; captain < 3; captain++) {
                for (int i = -1; i < 6; i++) {
                    due("order of " + captain + " at " + i, x.order(captain, i), want[captain][i + 1]);
                }
                due("no such i", x.order(captain, 6), NONE);
            }
            due("nobody's slips", new WallPicks().order(2, -1), 0);
            due("nobody's first", new WallPicks().order(2, 0), NONE);
            refusedFor(NO_CAPTAIN, "order, captain", NONE, (y, n) -> y.order(n, 0));
            refusedFor(beyond(-1, 3), "order, i", NONE, (y, n) -> y.order(0, n));
            refused(PromiseBoundaries::seven, "seven", -9, y -> y.order(2, -1));
            refused(PromiseBoundaries::seven, "seven", -9, y -> y.order(2, 6));
            refused(PromiseBoundaries::seven, "-9, no such i", -9, y -> y.order(0, -2));
            refused(PromiseBoundaries::seven, "-9, no such i", -9, y -> y.order(0, 7));
            refused(PromiseBoundaries::seven, "captain, -9", NONE, y -> y.order(3, 0));
            refused(PromiseBoundaries::seven, "captain, -9", NONE, y -> y.order(-1, 0));
        });
        promise(30, "LAST of a BOY. NONE.", () -> {
            WallPicks x = wallOf(1, 2);
            x.game(true);
            due("never", x.last(0), 0);
            due("once", x.last(1), 1);
            refusedFor(beyond(0, 3), "last", NONE, WallPicks::last);
            refused(PromiseBoundaries::eight, "a ninth", NONE, y -> y.last(8));
        });
    }

    private static void seven(WallPicks x) {
        boys(x, 1, 2, 3, 4, 5, 6, 7);
        x.game(true);
    }

    // ---- 31 to 33

    private static void acts() {
        promise(31, "An ACT (0 picks, 1 wants, 2 leaves) of a CAPTAIN's WAY (0 .. 2) with x.", () -> {
            WallPicks x = new WallPicks();
            x.boy(0, 0, 2);
            for (int captain = 0; captain < 3; captain++) {
                int friends = captain == 2 ? 1 : 0;
                due("picks", x.act(captain, 0, 100), 100 + captain);
                due("wants", x.act(captain, 1, 100), 100 + captain - friends);
                due("leaves", x.act(captain, 2, 100), 200 + 2 * captain - 2 * friends);
            }
            due("x is the least", x.act(0, 0, LOW), LOW);
            due("x is the most", x.act(0, 0, HIGH), HIGH);
        });
        promise(31, "0, and no TRACE then: no such CAPTAIN, act.", () -> {
            for (int n : new int[] {-1, 3, LOW, HIGH}) {
                noAct(x -> x.act(n, 0, 7));
                noAct(x -> x.act(1, n, 7));
                noAct(x -> x.act(n, n, 7));
            }
        });
        promise(32, "THE TRACE's i-th body. NONE.", () -> {
            WallPicks x = after(PromiseBoundaries::some);
            int[] bodies = {31, 3, 2, 1};
            for (int i = 0; i < bodies.length; i++) {
                due("trace " + i, x.trace(i), bodies[i]);
            }
            refusedFor(beyond(0, 3), "trace", NONE, WallPicks::trace);
            refusedFor(new int[] {19, 20}, "trace", NONE, WallPicks::trace);
            due("without an act", new WallPicks().trace(0), NONE);
            x.act(0, 1, 1);
            x.act(2, 0, 1);
            due("the latest one's", x.trace(0), 11);
            due("the latest one's", x.trace(1), 1);
            due("the latest one's", x.trace(2), NONE);
        });
        promise(33, "A CAPTAIN's WAY (0 .. 2) taken for a KIND k (0 .. 6), or one under that: its KIND. "
            + "NONE; -6: it is of another KIND.", () -> {
            String[] under = {"0", "01", "02", "013", "024", "05", "016"};
            for (int captain = 0; captain < 3; captain++) {
                WallPicks x = new WallPicks();
                for (int kind = 0; kind < 7; kind++) {
                    x.way(captain, kind);
                    for (int k = 0; k < 7; k++) {
                        int want = under[kind].indexOf('0' + k) < 0 ? -6 : kind;
                        due("kind " + kind + " as " + k, x.as(captain, k), want);
                    }
                }
            }
            refusedFor(NO_CAPTAIN, "as, captain", NONE, (y, n) -> y.as(n, 0));
            refusedFor(beyond(0, 6), "as, k", NONE, (y, n) -> y.as(0, n));
        });
    }

    /** All but the trace is as if the act had not been, and the trace as if there had been none. */
    private static void noAct(Call call) {
        History way = y -> {
            some(y);
            y.image();
        };
        WallPicks x = after(way);
        due("bodies of the act ahead", x.count(6), 4);
        due("no such captain, act", call.on(x), 0);
        due("no bodies", x.count(6), 0);
        for (int i = 0; i < 4; i++) {
            due("no trace", x.trace(i), NONE);
        }
        WallPicks other = after(way);
        x.act(0, 0, 1);
        other.act(0, 0, 1);
        due("all else is as it was, which", Whole.of(x).equals(Whole.of(other)) ? 1 : 0, 1);
    }

    // ---- 34 to 36

    private static void image() {
        promise(34, "THE IMAGE is taken: how many BOYS there are.", () -> {
            WallPicks x = new WallPicks();
            due("nobody", x.image(), 0);
            for (int i = 1; i <= 8; i++) {
                x.boy(0, 1, -1);
                due("image", x.image(), i);
            }
            due("of the latest one", x.undo(), 8);
            due("of the latest one", x.count(0), 8);
        });
        promise(35, "All is as THE IMAGE: how many BOYS. STATE: there is none.", () -> {
            refused(y -> { }, "a new object", STATE, WallPicks::undo);
            refused(PromiseBoundaries::eight, "without an image", STATE, WallPicks::undo);
            WallPicks x = new WallPicks();
            x.image();
            due("of an empty wall", x.undo(), 0);
            eight(x);
            x.play(3);
            x.game(true);
            due("from a full wall to an empty one", x.undo(), 0);
            due("boys", x.count(0), 0);
            due("captains", x.count(2), 2);
            due("summers", x.count(3), 0);
            due("the first one anew", x.boy(3, 3, 2), 0);
            due("the image stays", x.undo(), 0);
            eight(x);
            x.image();
            x.game(true);
            due("of a full wall", x.undo(), 8);
            due("all are left", x.count(4), 8);
        });
        promise(35, "All is as THE IMAGE", () -> {
            nothingStays(0, 0, 0, 0);
            nothingStays(3, 3 + 1, 4, 4);
            WallPicks x = wallOf(1, 2);
            yardOf(x, "mark 50 n=0");
            yardOf(x, "mark 40 n=1");
            x.image();
            x.has(0, 0);
            due("value by one yard", x.value(0), 51);
            x.undo();
            x.has(0, 1);
            due("value by another one", x.value(0), 42);
        });
    }

    /** What was reckoned of six boys says nothing of so few as the image has. */
    private static void nothingStays(int few, int value, int cut, int even) {
        WallPicks x = new WallPicks();
        for (int i = 1; i <= few; i++) {
            x.boy(0, i, -1);
        }
        x.image();
        for (int i = few + 1; i <= 6; i++) {
            x.boy(0, i, -1);
        }
        for (int first = 3; first < 6; first++) {
            picksAs(x, 0, first);
            x.game(true);
        }
        x.play(2);
        due("slips of six", x.order(0, -1), 3);
        due("value of six", x.value(0), 6 + 4 + 2);
        due("cut of six", x.cut(0, 1, 1) > 0 ? 1 : 0, 1);
        due("even of six", x.even(0) > 0 ? 1 : 0, 1);
        due("undo", x.undo(), few);
        due("slips of " + few, x.order(0, -1), 0);
        due("value of " + few, x.value(0), value);
        due("cut of " + few, x.cut(0, 1, 1), cut);
        due("even of " + few, x.even(0), even);
    }

    private static void counts() {
        promise(36, "0 BOYS, 1 YARDS, 2 CAPTAINS that PLAY, 3 SUMMERS", () -> {
            WallPicks x = new WallPicks();
            due("boys", x.count(0), 0);
            due("yards", x.count(1), 0);
            due("captains", x.count(2), 2);
            due("summers", x.count(3), 0);
            eight(x);
            x.play(3);
            for (int i = 0; i < 6; i++) {
                yardOf(x, "lack 1 0");
            }
            for (int i = 0; i < 12; i++) {
                x.game(true);
            }
            due("boys", x.count(0), 8);
            due("yards", x.count(1), 6);
            due("captains", x.count(2), 3);
            due("summers", x.count(3), 12);
        });
        promise(36, "4 BOYS LEFT, SIDES being as NOW", () -> {
            WallPicks x = new WallPicks();
            due("nobody is there", x.count(4), 0);
            eight(x);
            x.play(3);
            due("all are left", x.count(4), 8);
            for (int boy = 0; boy < 8; boy++) {
                x.give(boy, boy % 3);
                due("one fewer", x.count(4), 7 - boy);
            }
            x.give(7, 0);
            due("nobody is left", x.count(4), 0);
            x.give(7, -1);
            due("one is left again", x.count(4), 1);
        });
        promise(36, "5 bytes of THE TAPE", () -> {
            WallPicks x = new WallPicks();
            due("none", x.count(5), 0);
            for (int size = 8; size <= 120; size += 8) {
                x.feed(0, 8);
                due("bytes", x.count(5), size);
            }
            x.yard();
            due("none again", x.count(5), 0);
        });
        promise(36, "6 bodies that ran in the latest act() (all, kept or not). NONE.", () -> {
            WallPicks x = new WallPicks();
            due("without an act", x.count(6), 0);
            int[] leaves = {3, 4, 4, 7, 5, 4, 5};
            for (int kind = 0; kind < 7; kind++) {
                x.way(0, kind);
                x.act(0, 2, 0);
                due("bodies of leaves by " + kind, x.count(6), leaves[kind]);
            }
            x.act(1, 0, 0);
            due("the latest one's alone", x.count(6), 1);
            refusedFor(beyond(0, 6), "count", NONE, WallPicks::count);
        });
    }
}
