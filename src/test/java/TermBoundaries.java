/** The boundaries that the document's terms name, sections 1 to 5. */
final class TermBoundaries extends Sentences {
    private TermBoundaries() {
    }

    static void run() {
        rest("An object is used for at most 512 calls after it has been made", TermBoundaries::lastCall);
        boysAndCaptains();
        yardTexts();
        tests();
        opened();
        faults();
        worths();
        turns();
        ways();
        acts();
        best();
        shares();
        summers();
        refusals();
    }

    private static void lastCall() {
        WallPicks x = after(TermBoundaries::eight);
        x.play(3);
        for (int i = 0; i < 200; i++) {
            x.fairest();
            x.turns(i % 3);
        }
        for (int i = 0; i < 100; i++) {
            x.give(i % 8, i % 3);
        }
        x.play(3);
        due("value 0, the 511th", x.value(0), 8 + 3 + 2);
        due("best, the 512th", x.best(), 7);
    }

    // ---- 1 boys, captains

    private static void boysAndCaptains() {
        term(1, "BOYS are numbered from 0 on, 8 at most", () -> {
            WallPicks x = new WallPicks();
            for (int i = 0; i < 8; i++) {
                due("boy", x.boy(3, 20, 2), i);
            }
            due("strength of 7", x.of(7, 1), 20);
            refused(TermBoundaries::eight, "a ninth", FULL, y -> y.boy(0, 0, -1));
        });
        term(1, "a PLACE (0 .. 3)", () -> {
            WallPicks x = new WallPicks();
            due("the first place in", x.boy(0, 1, 0), 0);
            due("the last place in", x.boy(3, 1, 0), 1);
            due("place", x.of(0, 0), 0);
            due("place", x.of(1, 0), 3);
            for (int out : new int[] {-1, 4, LOW, HIGH}) {
                refused(TermBoundaries::some, "place " + out, NONE, y -> y.boy(out, 1, 0));
            }
        });
        term(1, "a STRENGTH (0 .. 20)", () -> {
            WallPicks x = new WallPicks();
            due("the least strength in", x.boy(0, 0, 0), 0);
            due("the most strength in", x.boy(0, 20, 0), 1);
            due("strength", x.of(0, 1), 0);
            due("strength", x.of(1, 1), 20);
            for (int out : new int[] {-1, 21, LOW, HIGH}) {
                refused(TermBoundaries::some, "strength " + out, BAD, y -> y.boy(0, out, 0));
            }
        });
        term(1, "a FRIEND (a CAPTAIN, or none)", () -> {
            WallPicks x = new WallPicks();
            for (int friend = -1; friend < 3; friend++) {
                due("friend " + friend, x.boy(0, 1, friend), friend + 1);
                due("friend", x.of(friend + 1, 2), friend < 0 ? NOBODY : friend);
            }
            for (int out : new int[] {-2, 3, 9, LOW, HIGH}) {
                refused(TermBoundaries::some, "friend " + out, NONE, y -> y.boy(0, 1, out));
            }
        });
        term(1, "CAPTAINS 0 .. 2; so many of them PLAY (2 or 3; 2 at first)", () -> {
            WallPicks x = new WallPicks();
            due("two at first", x.count(2), 2);
            due("side 1", x.side(1), 0);
            due("side 2", x.side(2), NONE);
            due("play 3", x.play(3), 2);
            due("side 2", x.side(2), 0);
            due("side 3", x.side(3), NONE);
            due("play 2", x.play(2), 3);
            due("side 2", x.side(2), NONE);
            refused(TermBoundaries::some, "one plays", BAD, y -> y.play(1));
            refused(TermBoundaries::some, "four play", BAD, y -> y.play(4));
        });
        term(1, "A SIDE is a set of BOYS.", () -> {
            WallPicks x = wallOf(1, 2, 4);
            due("nobody", x.worth(0, 0), 0);
            due("all", x.worth(0, 7), 7);
            refused(TermBoundaries::some, "one who is not there", -1002, y -> y.worth(0, 16));
            due("nobody on an empty wall", new WallPicks().worth(0, 0), 0);
            due("somebody on an empty wall", new WallPicks().worth(0, 1), -1002);
            due("eight", after(TermBoundaries::eight).worth(0, 255), 36);
            due("a ninth", after(TermBoundaries::eight).worth(0, 256), -1002);
        });
    }

    // ---- 1 yards

    private static void yardTexts() {
        term(1, "A YARD is read from THE TAPE (bytes, 120 at most)", () -> {
            String text = "mark 10 n=9" + "|n=9".repeat(26) + "|n<10";
            due("the text's bytes", text.length(), 120);
            WallPicks x = wallOf(3);
            feed(x, text);
            due("a byte more", x.feed('1', 1), FULL);
            due("120 bytes", x.yard(), 0);
            x.has(0, 0);
            due("the last of them is read", x.worth(0, 1), 13);
        });
        term(1, "CLAUSES, 10 at most, with ; between", () -> {
            WallPicks x = new WallPicks();
            String nine = "lack 1 0;".repeat(9);
            settle(x, 0, nine + "lack 30 0");
            due("all ten", x.worth(0, 0), -39);
            isFault(nine + "lack 1 0;", 89);
            isFault(nine + "lack 1 0;lack 1 0", 89);
            isFault("", 0);
            isFault(";lack 1 0", 0);
            isFault("lack 1 0;", 9);
            isFault("lack 1 0;;lack 1 0", 9);
            isFault("lack 1 0,lack 1 0", 8);
        });
        term(1, "(one blank ahead of each part behind the word;", () -> {
            isYard("mark 1 p=1", "both 1 0 1", "lack 1 0");
            Object[][] none = {{"mark1 p=1", 4}, {"mark 1p=1", 6}, {"both1 0 1", 4}, {"both 990 1", 7},
                {"both 1 01", 8}, {"lack1 0", 4}, {"lack 990", 7}};
            Object[][] two = {{"mark  1 p=1", 5}, {"mark 1  p=1", 7}, {"both  1 0 1", 5}, {"both 1  0 1", 7},
                {"both 1 0  1", 9}, {"lack  1 0", 5}, {"lack 1  0", 7}};
            Object[][] elsewhere = {{" lack 1 0", 0}, {"lack 1 0 ", 8}, {"lack 1 0; lack 1 0", 9}, {"l ack 1 0", 1},
                {"lack 1 0 ;lack 1 0", 8}, {"mark 1 p =1", 8}, {"mark 1 p= 1", 9}, {"mark 1 p=1 |p=1", 10},
                {"mark 1 ! p=1", 8}, {"mark 1 ( p=1)", 8}, {"mark 1 (p=1 )", 11}};
            areFaults(none);
            areFaults(two);
            areFaults(elsewhere);
        });
        term(1, "n 1 or 2 digits, no 0 ahead of another", () -> {
            int[] in = {0, 1, 9, 10, 90, 99};
            for (int n : in) {
                WallPicks x = new WallPicks();
                settle(x, 0, "lack " + n + " 0");
                due("a lack of " + n, x.worth(0, 0), -n);
            }
            Object[][] out = {{"lack 100 0", 7}, {"lack 999 0", 7}, {"lack 00 0", 6}, {"lack 01 0", 6},
                {"lack / 0", 5}, {"lack : 0", 5}, {"lack 1/ 0", 6}, {"lack 1: 0", 6}, {"lack -1 0", 5},
                {"mark 100 p=1", 7}, {"mark 01 p=1", 6}, {"both 100 0 1", 7}, {"both 01 0 1", 6}};
            areFaults(out);
        });
        term(1, "a, b a digit 0 .. 7", () -> {
            isYard("both 1 0 7", "both 1 7 0", "both 1 0 0", "both 1 7 7");
            Object[][] out = {{"both 1 8 0", 7}, {"both 1 0 8", 9}, {"both 1 / 0", 7}, {"both 1 0 /", 9},
                {"both 1 00 1", 8}, {"both 1 0 11", 10}, {"both 1 0 01", 10}, {"both 1 -1 0", 7}};
            areFaults(out);
        });
        term(1, "k a digit 0 .. 3", () -> {
            isYard("lack 1 0", "lack 1 3");
            Object[][] out = {{"lack 1 4", 7}, {"lack 1 /", 7}, {"lack 1 00", 8}, {"lack 1 33", 8}, {"lack 1 -1", 7}};
            areFaults(out);
        });
        term(1, "E: T, or T|E.", () -> {
            isYard("mark 1 p=1", "mark 1 p=1|p=2", "mark 1 p=1|p=2|p=3");
            Object[][] out = {{"mark 1 |p=1", 7}, {"mark 1 p=1|", 11}, {"mark 1 p=1||p=1", 11}, {"mark 1 p=1|;", 11}};
            areFaults(out);
        });
        term(1, "T: F, or F&T.", () -> {
            isYard("mark 1 p=1&p=1", "mark 1 p=1&p=2&p=3", "mark 1 p=1&p=2|p=3&p=1");
            Object[][] out = {{"mark 1 &p=1", 7}, {"mark 1 p=1&", 11}, {"mark 1 p=1&&p=1", 11}, {"mark 1 p=1&|p=1", 11},
                {"mark 1 p=1|&p=1", 11}};
            areFaults(out);
            worthAlone(TermBoundaries::eight, "mark 50 n=0|n=1&s=9", 51, 2);
            worthAlone(TermBoundaries::eight, "mark 50 s=9&n=1|n=0", 51, 2);
            worthAlone(TermBoundaries::eight, "mark 50 (n=0|n=1)&s=9", 1, 2);
        });
    }

    private static void areFaults(Object[][] texts) {
        for (Object[] text : texts) {
            isFault((String) text[0], (Integer) text[1]);
        }
    }

    /** Every byte in a place of a text; the yards it is of, or the faults behind it; elsewhere it is the fault. */
    private static void onlyThese(String ahead, String yards, String parts) {
        for (int i = 0; i < 256; i++) {
            char sign = (char) i;
            if (yards.indexOf(sign) >= 0) {
                isYard(ahead + sign);
            } else {
                isFault(ahead + sign, parts.indexOf(sign) >= 0 ? ahead.length() + 1 : ahead.length());
            }
        }
    }

    private static void tests() {
        term(1, "F: !F, (E), or a TEST: p or s or f or n, one of < = >, a number likewise", () -> {
            onlyThese("", "", "mbl");
            onlyThese("mark 1 ", "", "psfn!(");
            onlyThese("mark 1 !", "", "psfn!(");
            onlyThese("mark 1 (", "", "psfn!(");
            onlyThese("mark 1 p", "", "<=>");
            onlyThese("mark 1 p=", "0123456789", "");
            onlyThese("mark 1 p=1", "0123456789", "|&;");
            onlyThese("mark 1 p=0", "", "|&;");
            onlyThese("mark 1 p=11", "", "|&;");
            onlyThese("mark 1 (p=1", ")", "|&0123456789");
            onlyThese("mark 1 (p=1)", "", "|&;");
        });
        term(1, "one of < = >", () -> {
            String[] texts = {"p<0", "p<1", "p<2", "p<4", "p=0", "p=3", "p=4", "p>0", "p>2", "p>3", "s<20", "s=20",
                "s>19", "s>20", "s<99", "s=99", "s>99", "s>0"};
            int[] marked = {0, 1, 3, 15, 1, 8, 0, 14, 8, 0, 7, 8, 8, 0, 15, 0, 0, 15};
            for (int i = 0; i < texts.length; i++) {
                int side = marked[i];
                worthAlone(TermBoundaries::fourPlaces, "mark 50 " + texts[i],
                    17 + 50 * (side & 1), 18 + 50 * (side >> 1 & 1), 19 + 50 * (side >> 2 & 1), 20 + 50 * (side >> 3));
            }
        });
        term(1, "f FRIEND (9: none)", () -> {
            History friends = x -> {
                for (int friend = -1; friend < 3; friend++) {
                    x.boy(0, 0, friend);
                }
            };
            worthAlone(friends, "mark 1 f=9", 1, 0, 0, 0);
            worthAlone(friends, "mark 1 f<9", 0, 1, 1, 1);
            worthAlone(friends, "mark 1 f>8", 1, 0, 0, 0);
            worthAlone(friends, "mark 1 f>2", 1, 0, 0, 0);
            worthAlone(friends, "mark 1 f>9", 0, 0, 0, 0);
            worthAlone(friends, "mark 1 f<10", 1, 1, 1, 1);
            worthAlone(friends, "mark 1 f=0", 0, 1, 0, 0);
            worthAlone(friends, "mark 1 f=2", 0, 0, 0, 1);
            worthAlone(friends, "mark 1 f=3", 0, 0, 0, 0);
            worthAlone(friends, "mark 1 f<1", 0, 1, 0, 0);
        });
        term(1, "n his number", () -> {
            worthAlone(TermBoundaries::eight, "mark 50 n=0", 51, 2, 3, 4, 5, 6, 7, 8);
            worthAlone(TermBoundaries::eight, "mark 50 n<1", 51, 2, 3, 4, 5, 6, 7, 8);
            worthAlone(TermBoundaries::eight, "mark 50 n=7", 1, 2, 3, 4, 5, 6, 7, 58);
            worthAlone(TermBoundaries::eight, "mark 50 n>6", 1, 2, 3, 4, 5, 6, 7, 58);
            worthAlone(TermBoundaries::eight, "mark 50 n=8", 1, 2, 3, 4, 5, 6, 7, 8);
            worthAlone(TermBoundaries::eight, "mark 50 n>7", 1, 2, 3, 4, 5, 6, 7, 8);
        });
    }

    private static void fourPlaces(WallPicks x) {
        for (int place = 0; place < 4; place++) {
            x.boy(place, 17 + place, -1);
        }
    }

    private static void opened() {
        term(1, "At most 5 of ! and ( are open", () -> {
            isYard("mark 1 !!!!!p=1", "mark 1 (((((p=1)))))", "mark 1 (!(!(p=1)))", "mark 1 !(!(!p=1))");
            Object[][] six = {{"mark 1 !!!!!!p=1", 12}, {"mark 1 ((((((p=1))))))", 12}, {"mark 1 !(!(!(p=1)))", 12},
                {"mark 1 (!(!(!p=1)))", 12}};
            areFaults(six);
        });
        term(1, "a ( till its )", () -> {
            isYard("mark 1 (((((p=1)))))&(((((p=1)))))|(((((p=1)))))", "mark 1 (((((p=1)|(p=1)))))",
                "mark 1 ((((p=1)))&(((p=1))))", "mark 1 (!!!!p=1)&!!!!!p=1");
            Object[][] six = {{"mark 1 (((((p=1)|((p=1))))))", 18}, {"mark 1 (p=1&(((((p=1))))))", 16},
                {"mark 1 (((((p=1&(p=1))))))", 16}, {"mark 1 (((((p=1|!p=1)))))", 16}};
            areFaults(six);
        });
        term(1, "a ! till its F ends", () -> {
            isYard("mark 1 !!!!!p=1&!!!!!p=1|!!!!!p=1", "mark 1 (!p=1&!!!!p=1)", "mark 1 !((((p=1))))",
                "mark 1 !(p=1)&(((((p=1)))))", "mark 1 !(p=1&(((p=1))))", "mark 1 !p=1;mark 1 !!!!!p=1");
            Object[][] six = {{"mark 1 !(((((p=1)))))", 12}, {"mark 1 !(p=1&((((p=1)))))", 15 + 1},
                {"mark 1 (!p=1&!!!!!p=1)", 17}, {"mark 1 !(p=1|!!!!p=1)", 16}};
            areFaults(six);
            worthAlone(TermBoundaries::eight, "mark 50 !n=0&n<2", 1, 52, 3);
            worthAlone(TermBoundaries::eight, "mark 50 !n=0|n=0", 51, 52, 53);
            worthAlone(TermBoundaries::eight, "mark 50 !(n=0|n=1)", 1, 2, 53);
            worthAlone(TermBoundaries::eight, "mark 50 !!n=1", 1, 52, 3);
        });
    }

    private static void faults() {
        term(1, "FAULT: the place of the first byte with which no YARD can go on", () -> {
            isFault("x", 0);
            isFault("xmark 5 q=1", 0);
            isFault("mark 5 q=q", 7);
            isFault("mork 05 q=1", 1);
            isFault("\u0000", 0);
            isFault("\u00ff", 0);
            isFault("\u00edark 1 p=1", 0);
            String longest = "mark 1 p=11" + "|p=1".repeat(26) + "|p=1";
            due("bytes ahead", longest.length(), 119);
            isYard(longest);
            isFault(longest + ")", 119);
            isFault(longest + " ", 119);
            isFault("?" + longest, 0);
        });
        term(1, "(the size, if it ends too early)", () -> {
            String text = "mark 10 (p=1&!s<20)|n=7;both 5 0 7;lack 9 3";
            for (int size = 0; size <= text.length(); size++) {
                String part = text.substring(0, size);
                if (size == 19 || size == 23 || size == 34 || size == 43) {
                    isYard(part);
                } else {
                    isFault(part, size);
                }
            }
            isFault("mark 1 p=11" + "|p=1".repeat(27) + "|", 120);
            WallPicks x = new WallPicks();
            String longer = "lack 1 0;lack 20 0";
            due("a longer text ahead", yardOf(x, longer), 0);
            for (int size = 1; size < longer.length() - 2; size++) {
                int want = size == 8 ? 1 : -10 - size;
                due("its first " + size + " bytes, once more", yardOf(x, longer.substring(0, size)), want);
            }
        });
        term(1, "YARDS are numbered from 0 on, 6 at most", () -> {
            WallPicks x = after(TermBoundaries::sixYards);
            due("yards", x.count(1), 6);
            due("the last one is had", x.has(0, 5), NOBODY);
            due("by it", x.worth(0, 0), -5);
            due("the first one is had", x.has(0, 0), 5);
            due("by it", x.worth(0, 0), 0);
            refused(TermBoundaries::sixYards, "a seventh is had", NONE, y -> y.has(0, 6));
            History fed = y -> {
                sixYards(y);
                feed(y, "lack 1 0");
            };
            refused(fed, "a seventh", FULL, WallPicks::yard);
        });
        term(1, "each CAPTAIN has one (none at first)", () -> {
            WallPicks x = wallOf(4);
            yardOf(x, "mark 10 n=0");
            for (int captain = 0; captain < 3; captain++) {
                due("without a yard", x.worth(captain, 1), 4);
                due("none at first", x.has(captain, 0), NOBODY);
                due("with it", x.worth(captain, 1), 14);
                due("one", x.has(captain, 0), 0);
            }
        });
    }

    private static void sixYards(WallPicks x) {
        for (int i = 0; i < 6; i++) {
            due("yard", yardOf(x, "lack " + i + " 0"), i);
        }
    }

    private static void worths() {
        term(1, "STRENGTHS of its BOYS, together", () -> {
            WallPicks x = wallOf(20, 20, 20, 20, 20, 20, 20, 20);
            due("nobody", x.worth(0, 0), 0);
            due("one", x.worth(0, 128), 20);
            due("all", x.worth(0, 255), 160);
            due("none of any", wallOf(0, 0).worth(2, 3), 0);
        });
        term(1, "for each mark n times how many of them there are for whom E holds", () -> {
            WallPicks x = wallOf(0, 0, 0, 0, 0, 0, 0, 0);
            settle(x, 0, "mark 99 n<8");
            due("nobody is of it", x.worth(0, 0), 0);
            due("one", x.worth(0, 128), 99);
            due("all", x.worth(0, 255), 792);
            settle(x, 0, "mark 99 n>7");
            due("for none", x.worth(0, 255), 0);
            settle(x, 0, "mark 0 n<8");
            due("of no worth", x.worth(0, 255), 0);
            settle(x, 0, "mark 99 n<8" + ";mark 9 n=7".repeat(9));
            due("each of ten", x.worth(0, 255), 792 + 81);
        });
        term(1, "of each both: n more, if a and b are of it", () -> {
            WallPicks x = wallOf(0, 0, 0);
            settle(x, 0, "both 9 0 2;both 30 1 1;both 50 0 3");
            int[] want = {0, 0, 30, 30, 0, 9, 30, 39};
            for (int side = 0; side < 8; side++) {
                due("side " + side, x.worth(0, side), want[side]);
            }
            x.boy(0, 0, -1);
            due("one who came", x.worth(0, 9), 50);
        });
        term(1, "of each lack: n less, if nobody of PLACE k is of it", () -> {
            WallPicks x = new WallPicks();
            settle(x, 0, "lack 99 0;".repeat(9) + "lack 99 0");
            due("ten lacks", x.worth(0, 0), -990);
            x.boy(0, 0, -1);
            x.boy(3, 0, -1);
            x.boy(3, 0, -1);
            settle(x, 0, "lack 9 0;lack 50 3");
            int[] want = {-59, -50, -9, 0, -9, 0, -9, 0};
            for (int side = 0; side < 8; side++) {
                due("side " + side, x.worth(0, side), want[side]);
            }
        });
    }

    // ---- 2 turns

    private static void turns() {
        term(2, "0 ONE: t modulo w", () -> {
            WallPicks x = new WallPicks();
            turnsAre(x, 0, 1, 0, 1, 0, 1, 0, 1);
            x.play(3);
            turnsAre(x, 0, 1, 2, 0, 1, 2, 0, 1);
        });
        term(2, "1 SNAKE: of each two rounds of w the first upwards, the second one downwards", () -> {
            WallPicks x = new WallPicks();
            x.turns(1);
            turnsAre(x, 0, 1, 1, 0, 0, 1, 1, 0);
            x.play(3);
            turnsAre(x, 0, 1, 2, 2, 1, 0, 0, 1);
        });
        term(2, "the first one BOY to CAPTAIN 0, then two each: (t and 1) by 2 (cut), modulo w", () -> {
            WallPicks x = new WallPicks();
            x.turns(2);
            turnsAre(x, 0, 1, 1, 0, 0, 1, 1, 0);
            x.play(3);
            turnsAre(x, 0, 1, 1, 2, 2, 0, 0, 1);
        });
        term(2, "3 TOLD: the t-th of a ROW of CAPTAINS (8 at most, as they come", () -> {
            WallPicks x = after(TermBoundaries::eightTold);
            x.turns(3);
            turnsAre(x, 1, 1, 0, 0, 1, 1, 0, 0);
            refused(TermBoundaries::eightTold, "a ninth", FULL, y -> y.told(0));
        });
        term(2, "beyond it, or if that one doesn't PLAY: as ONE", () -> {
            WallPicks x = new WallPicks();
            x.turns(3);
            turnsAre(x, 0, 1, 0, 1, 0, 1, 0, 1);
            x.told(1);
            turnsAre(x, 1, 1, 0, 1);
            x.told(2);
            x.told(2);
            x.told(1);
            turnsAre(x, 1, 1, 0, 1, 0, 1, 0, 1);
            x.play(3);
            turnsAre(x, 1, 2, 2, 1, 1, 2, 0, 1);
        });
        term(2, "ONE at first.", () -> {
            WallPicks x = new WallPicks();
            turnsAre(x, 0, 1, 0, 1, 0, 1, 0, 1);
            due("turns", x.turns(0), 0);
        });
        term(2, "TAKEN is how many BOYS somebody has: the next one is the TAKEN-th.", () -> {
            for (int boys = 2; boys <= 8; boys++) {
                for (int holder = 0; holder < 2; holder++) {
                    WallPicks x = twoLeftOf(boys, holder);
                    due("of " + boys + " two are left", x.best(), boys - 1);
                    x.give(boys - 2, holder);
                    due("one is left", x.best(), boys - 1);
                    x.give(boys - 1, holder);
                    due("nobody is left", x.best(), NOBODY);
                }
            }
        });
    }

    private static void eightTold(WallPicks x) {
        int[] row = {1, 1, 0, 0, 1, 1, 0, 0};
        for (int i = 0; i < row.length; i++) {
            due("told", x.told(row[i]), i + 1);
        }
    }

    /** The last of these is one whom the next one wants, and the last but one whom the other one wants. */
    private static WallPicks twoLeftOf(int boys, int holder) {
        WallPicks x = new WallPicks();
        for (int boy = 0; boy < boys; boy++) {
            x.boy(0, 0, -1);
        }
        settle(x, 0, "mark 9 n=1|n=3|n=5|n=7");
        settle(x, 1, "mark 9 n=0|n=2|n=4|n=6");
        for (int boy = 0; boy < boys - 2; boy++) {
            x.give(boy, holder);
        }
        return x;
    }

    // ---- 2 ways

    private static void ways() {
        term(2, "(WAY at first)", () -> {
            WallPicks x = wallOf(1, 9);
            for (int captain = 0; captain < 3; captain++) {
                due("kind", x.as(captain, 0), 0);
            }
            due("picks the least", x.picks(0), 0);
        });
        term(2, "What one PICKS of those LEFT (of several the least)", () -> {
            for (int kind = 0; kind < 7; kind++) {
                WallPicks x = wallOf(5, 5, 5);
                x.way(0, kind);
                due("the first of like ones by " + kind, x.picks(0), 0);
                x.give(0, 1);
                due("of like ones left by " + kind, x.picks(0), 1);
                x.give(1, 1);
                due("the only one left by " + kind, x.picks(0), 2);
                x.give(2, 1);
                due("nobody is left by " + kind, x.picks(0), NOBODY);
            }
        });
        term(2, "(as GREEDY, if that is he himself, or no BOY is LEFT for that)", () -> {
            WallPicks x = wallOf(5, 4, 3, 2);
            settle(x, 1, "mark 50 n=2");
            x.way(0, 2);
            due("the other one is behind", x.picks(0), 2);
            x.give(1, 1);
            due("he himself is behind", x.picks(0), 0);
            x.give(3, 1);
            due("the other one is behind, two are left", x.picks(0), 2);
            x.give(0, 1);
            due("one is left", x.picks(0), 2);
            x = after(TermBoundaries::eight);
            x.way(1, 2);
            for (int boy = 0; boy < 7; boy++) {
                x.give(boy, 0);
            }
            due("the eighth is the last one", x.picks(1), 7);
        });
        term(2, "FRIEND: as GREEDY of his own FRIENDS, if some are LEFT.", () -> {
            WallPicks x = new WallPicks();
            x.boy(0, 9, -1);
            x.boy(0, 1, 0);
            x.boy(0, 2, 0);
            x.boy(0, 3, 1);
            x.way(0, 3);
            due("two are", x.picks(0), 2);
            x.give(2, 1);
            due("one is", x.picks(0), 1);
            x.give(1, 1);
            due("none is", x.picks(0), 0);
            x.give(0, 1);
            due("another's", x.picks(0), 3);
        });
        term(2, "KIND: as GREEDY of those LEFT who were LAST most often of them "
            + "(by SUMMERS, see 4; without SUMMERS all are alike).", () -> {
            WallPicks x = wallOf(1, 2, 3);
            x.way(0, 6);
            due("without summers", x.picks(0), 2);
            lastIs(x, 0);
            due("one summer", x.picks(0), 0);
            lastIs(x, 1);
            due("once each, greedy", x.picks(0), 1);
            lastIs(x, 0);
            due("twice", x.picks(0), 0);
            x.give(0, 1);
            due("of those left once", x.picks(0), 1);
            x.give(1, 1);
            due("of those left never", x.picks(0), 2);
            x = wallOf(3, 2, 1);
            x.way(0, 6);
            lastIs(x, 1);
            lastIs(x, 2);
            due("once each, but a stronger one never", x.picks(0), 1);
            lastIs(x, 1);
            due("twice, and the last one once", x.picks(0), 1);
            lastIs(x, 2);
            lastIs(x, 2);
            due("thrice, but stronger ones less often", x.picks(0), 2);
            x.give(2, 1);
            due("twice, but a stronger one never", x.picks(0), 1);
        });
        term(2, "TOLD: the first of his LIST (8 at most, as they come) that is LEFT (none: the least).", () -> {
            WallPicks x = wallOf(1, 2, 3, 4);
            x.way(0, 5);
            due("an empty list", x.picks(0), 0);
            for (int i = 0; i < 7; i++) {
                x.list(0, 7 - i / 2);
            }
            due("seven who are not there", x.picks(0), 0);
            due("an eighth", x.list(0, 3), 8);
            due("it is left", x.picks(0), 3);
            x.give(3, 1);
            due("it is not left", x.picks(0), 0);
            picksAs(x, 0, 2, 1, 0);
            due("the first", x.picks(0), 2);
            x.give(2, 0);
            due("the second", x.picks(0), 1);
            History full = y -> {
                boys(y, 1, 2);
                picksAs(y, 0, 7, 7, 7, 7, 7, 7, 7, 7);
            };
            refused(full, "a ninth", FULL, y -> y.list(0, 1));
        });
        term(2, "BEST: as is best (see 3), if he takes this one, and all go on by TURNS.", () -> {
            WallPicks x = wallOf(4, 4, 5);
            settle(x, 0, "both 20 0 1");
            x.way(0, 4);
            x.way(1, 4);
            due("two turns", x.picks(0), 0);
            due("out of his turn, which is the next one, too", x.picks(1), 0);
            x.turns(1);
            due("one turn", x.picks(0), 2);
            x.give(0, 0);
            x.turns(0);
            due("out of his turn, and once more", x.picks(0), 1);
        });
        term(2, "A GAME: all BOYS are taken in TURNS by WAYS, from an empty SIDE each.", () -> {
            due("nobody", new WallPicks().game(false), 0);
            WallPicks x = wallOf(3);
            x.give(0, 1);
            due("one", x.game(false), 1);
            due("side 0", x.side(0), 1);
            due("side 1", x.side(1), 0);
            x = after(TermBoundaries::eight);
            x.give(0, 1);
            x.give(7, 0);
            x.turns(1);
            due("eight", x.game(false), 8);
            due("side 0", x.side(0), 1 + 8 + 16 + 128);
            due("side 1", x.side(1), 2 + 4 + 32 + 64);
        });
    }

    /** A summer, in which a boy is the last one of three; sides now are empty then. */
    private static void lastIs(WallPicks x, int boy) {
        int kind = x.as(0, 0);
        for (int captain = 0; captain < 2; captain++) {
            picksAs(x, captain, (boy + 1) % 3, (boy + 2) % 3);
        }
        x.game(true);
        x.play(2);
        x.way(0, kind);
    }

    // ---- 2 acts

    private static void actIs(int kind, int act, int n, int want) {
        WallPicks x = after(TermBoundaries::twoFriends);
        x.way(1, kind);
        due("act " + act + " of kind " + kind + " with " + n, x.act(1, act, n), want);
    }

    private static void twoFriends(WallPicks x) {
        x.boy(0, 0, 1);
        x.boy(0, 0, 0);
        x.boy(0, 0, 1);
    }

    private static void acts() {
        term(2, "ACTS of a CAPTAIN's WAY with x (ints, wrapping): picks, wants, leaves", () -> {
            actIs(0, 0, HIGH, LOW);
            actIs(0, 0, HIGH - 1, HIGH);
            actIs(0, 1, LOW, HIGH);
            actIs(0, 1, LOW + 1, LOW);
            actIs(0, 2, LOW, -2);
            actIs(0, 2, (1 << 30) + 1, LOW);
            actIs(0, 2, 1 << 30, HIGH - 1);
            actIs(1, 0, HIGH, HIGH - 1);
            actIs(1, 0, 715827882, HIGH);
            actIs(1, 0, 715827883, LOW + 2);
            actIs(2, 1, LOW + 1, LOW);
            actIs(2, 1, LOW, -HIGH);
            actIs(3, 2, LOW, -1);
            actIs(3, 2, 357913942, LOW + 3);
            actIs(4, 0, HIGH, LOW + 1);
            actIs(4, 0, 4, 4);
            actIs(4, 0, -1, 1);
            actIs(4, 0, -2, -2);
            actIs(5, 2, LOW, -7);
            actIs(6, 1, LOW, LOW + 1);
        });
        term(2, "i his number, f how many FRIENDS he has", () -> {
            WallPicks x = new WallPicks();
            for (int captain = 0; captain < 3; captain++) {
                due("picks of " + captain, x.act(captain, 0, 10), 10 + captain);
                due("wants without friends", x.act(captain, 1, 10), 10 + captain);
            }
            for (int i = 1; i <= 8; i++) {
                x.boy(0, 0, 2);
                due("wants with " + i, x.act(2, 1, 10), 12 - i);
                due("who has none", x.act(0, 1, 10), 10);
            }
        });
        term(2, "the body of its KIND, or, if that has none, of the next KIND above that has one", () -> {
            int[][] want = {{6, 4, 8}, {16, 14, 28}, {6, -4, -8}, {16, 14, 29}, {7, -5, -10}, {6, 4, 15}, {16, 16, 32}};
            for (int kind = 0; kind < 7; kind++) {
                for (int act = 0; act < 3; act++) {
                    actIs(kind, act, 5, want[kind][act]);
                }
            }
        });
        term(2, "THE TRACE: the numbers of the bodies that ran in the latest act(), as they began; "
            + "the first 20 are kept.", () -> {
            WallPicks x = after(TermBoundaries::twoFriends);
            due("no act yet", x.trace(0), NONE);
            x.way(1, 3);
            x.act(1, 2, 5);
            int[] most = {41, 3, 2, 11, 1, 11, 1};
            due("the most bodies that an act can have", x.count(6), most.length);
            for (int i = 0; i < most.length; i++) {
                due("trace " + i, x.trace(i), most[i]);
            }
            due("no more", x.trace(most.length), NONE);
            x.act(0, 0, 5);
            due("the latest one's alone", x.count(6), 1);
            due("trace 0", x.trace(0), 1);
            due("trace 1", x.trace(1), NONE);
        });
    }

    // ---- 3 the best

    private static void best() {
        term(3, "from the last BOY back each CAPTAIN takes the one by whom his SIDE at the end is worth most "
            + "to him, all going on so by TURNS (of several the least).", () -> {
            due("nobody", new WallPicks().best(), NOBODY);
            due("one", wallOf(0).best(), 0);
            due("like ones", wallOf(3, 3, 3).best(), 0);
            due("one more", wallOf(3, 4).best(), 1);
            WallPicks x = wallOf(5, 4, 4);
            settle(x, 0, "both 1 1 2");
            due("at the end as much by the first", x.best(), 0);
            settle(x, 0, "both 2 1 2");
            due("at the end more by the second", x.best(), 1);
            x = wallOf(0, 0);
            settle(x, 0, "lack 99 1");
            due("of like ones below nothing", x.best(), 0);
        });
        term(3, "VALUE of SIDES as they are to a CAPTAIN: what his SIDE is worth to him at the end so.", () -> {
            valuesAre(new WallPicks(), 0, 0, -1001);
            WallPicks x = wallOf(1, 2, 3, 4, 5, 6);
            x.play(3);
            valuesAre(x, 6 + 3, 5 + 2, 4 + 1);
            x.give(5, 2);
            x.give(4, 1);
            x.give(3, 0);
            valuesAre(x, 4 + 3, 5 + 2, 6 + 1);
            x.give(3, 2);
            valuesAre(x, 3, 5 + 2, 6 + 4 + 1);
            settle(x, 2, "both 50 3 5;lack 9 1");
            valuesAre(x, 3, 5 + 2, 6 + 4 + 50 - 9 + 1);
            x.boy(1, 9, -1);
            valuesAre(x, 9 + 1, 5 + 3, 6 + 4 + 50 - 9 + 2);
            for (int boy = 0; boy < 7; boy++) {
                x.give(boy, 2);
            }
            valuesAre(x, 0, 0, 21 + 50 + 9);
        });
        term(3, "a ROW of picks told by hand (BOYS as they come, 8 at most, by TURNS from the beginning)", () -> {
            WallPicks x = after(TermBoundaries::eightPicks);
            due("the eighth can't be", x.judged(0), 7);
            refused(TermBoundaries::eightPicks, "a ninth", FULL, y -> y.row(7));
            x.row(-1);
            for (int i = 0; i < 8; i++) {
                due("row", x.row(7 - i), i + 1);
                due("all can be", x.judged(0), NOBODY);
                due("no slip", x.judged(1), NOBODY);
            }
            x.row(-1);
            x.give(7, 0);
            x.row(7);
            due("from the beginning", x.judged(0), NOBODY);
        });
        term(3, "the first that can't be (taken already, not there; -5: none)", () -> {
            WallPicks x = wallOf(2, 1);
            due("an empty row", x.judged(0), NOBODY);
            x.row(1);
            due("the last one there", x.judged(0), NOBODY);
            x.row(2);
            due("the first one not there", x.judged(0), 1);
            x.row(1);
            due("only the first one", x.judged(0), 1);
            x.row(-1);
            x.row(7);
            due("the first pick", x.judged(0), 0);
            x.row(0);
            x.row(0);
            due("the first pick, and another", x.judged(0), 0);
            x.row(-1);
            x.row(0);
            x.row(0);
            due("taken already", x.judged(0), 1);
            x.row(-1);
            x.row(0);
            x.row(1);
            x.row(0);
            due("all are taken", x.judged(0), 2);
        });
        term(3, "SLIP: the first pick (ahead of that) behind which the VALUE to the one who took it "
            + "is less than it was ahead of it; by how much.", () -> {
            judgedIs(wallOf(9, 5, 4, 1), NOBODY, NOBODY, 0);
            judgedIs(wallOf(9, 5, 4, 1), NOBODY, 0, 7, 3);
            judgedIs(wallOf(9, 5, 4, 1), 1, 0, 7, 3, 3);
            judgedIs(wallOf(9, 5, 4, 1), 1, NOBODY, 0, 0, 0, 3, 1);
            judgedIs(wallOf(9, 5, 4, 1), NOBODY, 1, 1, 0, 3);
            judgedIs(wallOf(9, 5, 4, 1), NOBODY, 0, 7, 3, 2);
            judgedIs(wallOf(9, 5, 4, 1), NOBODY, 2, 3, 0, 1, 3);
            judgedIs(wallOf(9, 5, 4, 1), 3, 2, 3, 0, 1, 3, 3);
            judgedIs(wallOf(5, 5), NOBODY, NOBODY, 0, 1);
            judgedIs(wallOf(5, 4), NOBODY, 0, 1, 1);
            WallPicks x = wallOf(5, 5, 5);
            settle(x, 0, "mark 10 n=1");
            judgedIs(x, NOBODY, 0, 10, 0);
            x.row(-1);
            judgedIs(x, NOBODY, NOBODY, 0, 1, 2, 0);
            settle(x, 1, "mark 7 n=2");
            x.row(-1);
            judgedIs(x, NOBODY, 1, 7, 1, 0, 2);
        });
        term(3, "FIRST by TURNS: VALUE of empty SIDES to CAPTAIN 0, less what it would be, "
            + "if in these TURNS CAPTAIN 1 took for 0, and 0 for 1.", () -> {
            firstsAre(new WallPicks(), 0, 0, 0);
            firstsAre(wallOf(7), 7, 7, 7);
            firstsAre(wallOf(0, 7), 7, 7, 7);
            firstsAre(wallOf(4, 4), 0, 0, 0);
            firstsAre(wallOf(5, 5, 1), 1, -1, -1);
            WallPicks x = wallOf(5, 5, 1);
            x.give(0, 1);
            x.give(1, 1);
            firstsAre(x, 1, -1, -1);
            x.play(3);
            firstsAre(x, 0, 0, 5 - 6);
        });
        term(3, "FAIREST: the TURNS (0 .. 2) by which FIRST (without sign) is least (of several the least).", () -> {
            due("an empty wall", new WallPicks().fairest(), 0);
            due("1 and -1 are as much", wallOf(5, 5, 1).fairest(), 0);
            due("snake and twos are as much", wallOf(5, 4, 4).fairest(), 1);
            WallPicks x = wallOf(20, 19, 18, 2, 1, 0);
            x.play(3);
            firstsAre(x, 2, 0, -17);
            due("not the one below nothing", x.fairest(), 1);
            x = wallOf(20, 10, 9, 2, 1, 0);
            x.play(3);
            firstsAre(x, 11, 9, 1);
            due("the last of the turns", x.fairest(), 2);
        });
    }

    private static void eightPicks(WallPicks x) {
        eight(x);
        for (int i = 0; i < 7; i++) {
            x.row(7 - i);
        }
        x.row(1);
    }

    private static void judgedIs(WallPicks x, int wrong, int slip, int loss, int... row) {
        for (int boy : row) {
            x.row(boy);
        }
        due("judged 0", x.judged(0), wrong);
        due("judged 1", x.judged(1), slip);
        due("judged 2", x.judged(2), loss);
    }

    private static void valuesAre(WallPicks x, int... want) {
        for (int captain = 0; captain < want.length; captain++) {
            due("value to " + captain, x.value(captain), want[captain]);
        }
    }

    private static void firstsAre(WallPicks x, int... want) {
        for (int turns = 0; turns < 3; turns++) {
            due("first by " + turns, x.first(turns), want[turns]);
        }
    }

    // ---- 3 and 4 sides parted, trades

    private static void shares() {
        term(3, "EVEN: all BOYS parted in two SIDES, of as many (or one less in the first), so that STRENGTHS "
            + "together are the least apart; of several the first SIDE the least as bits.", () -> {
            evenIs(0, 0);
            evenIs(0, 5, 5);
            evenIs(1, 2, 7, 9);
            evenIs(4, 0, 4, 5, 9);
            evenIs(1, 1, 3, 1, 1);
            evenIs(3, 19, 20, 1, 1, 1);
            evenIs(15, 0, 1, 1, 1, 1, 1, 1, 1, 1);
            evenIs(51, 0, 0, 0, 0, 0, 1, 1, 1, 1);
            evenIs(7, 20, 20, 20, 20, 20, 20, 20, 20);
        });
        term(3, "CUT: CAPTAIN a parts all BOYS in two SIDES (any; the first is the lesser one as bits)", () -> {
            cutIs(new WallPicks(), 0, 0);
            cutIs(wallOf(3), 0, 0);
            cutIs(wallOf(0, 0), 0, 3);
            WallPicks x = wallOf(1, 1, 1, 1, 1, 1, 1, 1);
            settle(x, 1, "mark 50 n=7");
            cutIs(x, 127, 127);
            x = wallOf(1, 1, 1);
            settle(x, 0, "mark 9 n=2");
            cutIs(x, 3, 4);
            x = wallOf(4, 4);
            settle(x, 0, "mark 9 n=0");
            cutIs(x, 1, 2);
        });
        term(3, "b takes the one that is worth more to him (of like ones the first), a has the other one", () -> {
            cutIs(wallOf(4, 4), 1, 2);
            WallPicks x = wallOf(4, 4);
            settle(x, 1, "mark 1 n=1");
            cutIs(x, 1, 1);
            x = wallOf(4, 4);
            settle(x, 1, "mark 1 n=0");
            cutIs(x, 1, 2);
        });
        term(3, "what a has is worth most to him (of several the first SIDE the least as bits)", () -> {
            cutIs(wallOf(4, 4, 4), 1, 1);
            cutIs(wallOf(4, 4, 4, 4), 3, 12);
            cutIs(wallOf(4, 4, 5), 3, 4);
        });
        term(4, "SIDES NOW: as they were told (give()), or as a GAME left them.", () -> {
            WallPicks x = wallOf(1, 2, 3);
            due("at first", x.side(0) + x.side(1), 0);
            x.give(1, 0);
            due("told", x.side(0), 2);
            x.game(false);
            due("a game left them", x.side(0), 5);
            due("a game left them", x.side(1), 2);
            x.give(0, 1);
            due("told behind it", x.side(0), 4);
            due("told behind it", x.side(1), 3);
        });
        term(4, "TRADES of two CAPTAINS: a BOY of each for the other's, "
            + "so that both SIDES are worth more to their CAPTAINS", () -> {
            tradesAre(5, 5, null, null, 0, NOBODY);
            tradesAre(5, 5, "mark 1 n=1", null, 0, NOBODY);
            tradesAre(5, 5, null, "mark 1 n=0", 0, NOBODY);
            tradesAre(5, 5, "mark 1 n=1", "mark 1 n=0", 1, 1);
            tradesAre(5, 4, "mark 1 n=1", "mark 1 n=0", 0, NOBODY);
            tradesAre(5, 4, "mark 2 n=1", null, 1, 1);
        });
        term(4, "the first (by the first's, then the second's BOY)", () -> {
            WallPicks x = after(TermBoundaries::traders);
            due("all four", x.trades(0, 1, 0), 4);
            due("the first", x.trades(0, 1, 1), 1);
            due("the other's first", x.trades(1, 0, 1), 10);
            x.give(1, -1);
            due("by the second's", x.trades(0, 1, 1), 3);
            x.give(0, -1);
            due("by the first's", x.trades(0, 1, 1), 23);
        });
        term(4, "TRADE till there is none: 20 at most.", () -> {
            WallPicks x = after(TermBoundaries::traders);
            due("two", x.trade(0, 1), 2);
            due("none more", x.trade(0, 1), 0);
            x = after(TermBoundaries::traders);
            x.give(0, -1);
            due("one", x.trade(0, 1), 1);
            x = new WallPicks();
            due("nobody has any", x.trade(0, 1), 0);
            manyTrades(x);
            due("twenty", x.trade(0, 1), 20);
            due("one more is wanted", x.trades(0, 1, 0) > 0 ? 1 : 0, 1);
            due("the last one", x.trade(0, 1), 1);
            due("none more", x.trades(0, 1, 0), 0);
        });
    }

    private static void evenIs(int first, int apart, int... strengths) {
        WallPicks x = wallOf(strengths);
        due("even 0 of " + strengths.length, x.even(0), first);
        due("even 1 of " + strengths.length, x.even(1), apart);
    }

    private static void cutIs(WallPicks x, int first, int left) {
        due("cut 0", x.cut(0, 1, 0), first);
        due("cut 1", x.cut(0, 1, 1), left);
    }

    /** Captain 0 has boy 0, and captain 1 boy 1. */
    private static void tradesAre(int own, int other, String yard, String otherYard, int want, int first) {
        WallPicks x = wallOf(own, other);
        x.give(0, 0);
        x.give(1, 1);
        if (yard != null) {
            settle(x, 0, yard);
        }
        if (otherYard != null) {
            settle(x, 1, otherYard);
        }
        due("trades 0", x.trades(0, 1, 0), want);
        due("trades 1", x.trades(0, 1, 1), first);
    }

    static void traders(WallPicks x) {
        boys(x, 5, 5, 5, 5);
        settle(x, 0, "mark 10 n=1|n=3");
        settle(x, 1, "mark 10 n=0|n=2");
        x.give(0, 0);
        x.give(2, 0);
        x.give(1, 1);
        x.give(3, 1);
    }

    /** A wall and yards that were searched for: 21 trades, one behind the other. */
    private static void manyTrades(WallPicks x) {
        int[] places = {3, 3, 0, 1, 2, 1, 0, 2};
        int[] strengths = {11, 7, 19, 8, 3, 5, 19, 2};
        for (int i = 0; i < 8; i++) {
            x.boy(places[i], strengths[i], -1);
            x.give(i, 108 >> i & 1);
        }
        settle(x, 0, "mark 7 n=3;mark 21 n=6;lack 95 1;both 5 1 4;both 80 4 3;both 71 3 3;lack 51 3;mark 24 n=6;"
            + "mark 34 n=6;both 2 1 6");
        settle(x, 1, "both 7 1 4;lack 52 2;both 24 2 4;lack 33 2;mark 46 n=7;both 71 7 5;lack 3 3;lack 43 2;"
            + "lack 48 2;lack 46 3");
    }

    // ---- 4 summers, the image

    private static void summers() {
        term(4, "SUMMERS: GAMES that were kept, 12 at most: who took whom, one behind the other.", () -> {
            WallPicks x = wallOf(1, 2);
            for (int i = 1; i <= 12; i++) {
                due("game", x.game(true), 2);
                due("summers", x.count(3), i);
                due("last", x.last(1), i);
            }
            picksAs(x, 0, 1);
            due("a thirteenth", x.game(true), 2);
            due("summers", x.count(3), 12);
            due("last", x.last(1), 12);
            due("last", x.last(0), 0);
        });
        term(4, "THOUGHT of a CAPTAIN: how often in these he took a while b was LEFT.", () -> {
            WallPicks x = wallOf(1, 2, 3);
            due("no summers", x.thought(0, 0, 1), 0);
            for (int i = 1; i <= 12; i++) {
                x.game(true);
                due("the next one was left", x.thought(0, 0, 1), i);
                due("the last one was left", x.thought(0, 0, 2), i);
                due("the other's", x.thought(1, 1, 2), i);
            }
            due("the one ahead was not left", x.thought(1, 1, 0), 0);
            due("the last one left nobody", x.thought(0, 2, 0), 0);
            due("the last one left nobody", x.thought(0, 2, 1), 0);
            due("another took him", x.thought(1, 0, 1), 0);
            due("who took nobody", x.thought(2, 0, 1), 0);
            x.boy(0, 4, -1);
            due("one who came behind them", x.thought(0, 0, 3), 0);
            due("one who came behind them", x.thought(0, 3, 0), 0);
            x = after(TermBoundaries::eight);
            picksAs(x, 0, 7);
            x.game(true);
            due("0 took the last as the first", x.thought(0, 7, 0), 1);
            for (int boy = 0; boy < 7; boy++) {
                due("who was not left then", x.thought(boy % 2 == 0 ? 1 : 0, boy, 7), 0);
            }
        });
        term(4, "ORDER of a CAPTAIN (of 6 BOYS at most, else -9)", () -> {
            WallPicks x = wallOf(1, 2, 3, 4, 5, 6);
            due("slips of six", x.order(0, -1), 0);
            due("the sixth", x.order(0, 5), 5);
            x.boy(0, 7, -1);
            due("slips of seven", x.order(0, -1), -9);
            due("the first of seven", x.order(0, 0), -9);
            x.boy(0, 8, -1);
            due("of eight", x.order(0, 0), -9);
            due("of nobody", new WallPicks().order(0, -1), 0);
        });
        term(4, "how often he took one while somebody (once, however many) who is ahead of that one "
            + "in the order was LEFT", () -> {
            WallPicks x = wallOf(1, 2, 3);
            for (int first = 0; first < 3; first++) {
                picksAs(x, 0, first);
                x.game(true);
            }
            due("one slip by each but the first", x.order(0, -1), 2);
            due("the other one's", x.order(1, -1), 0);
            x = wallOf(1, 2, 3);
            for (int i = 0; i < 11; i++) {
                x.game(true);
            }
            orderIs(x, 0, 0, 0, 1, 2);
            picksAs(x, 0, 1);
            x.game(true);
            due("summers", x.count(3), 12);
            orderIs(x, 0, 1, 0, 1, 2);
            x = wallOf(1, 2, 3);
            picksAs(x, 0, 2);
            for (int i = 0; i < 12; i++) {
                due("no slip in " + i + " summers", x.order(0, -1), 0);
                x.game(true);
            }
            orderIs(x, 0, 0, 2, 0, 1);
        });
        term(4, "of several the first as a row", () -> {
            WallPicks x = wallOf(1, 2, 3);
            orderIs(x, 0, 0, 0, 1, 2);
            picksAs(x, 0, 1);
            x.game(true);
            orderIs(x, 0, 0, 1, 0, 2);
            orderIs(x, 1, 0, 0, 1, 2);
            picksAs(x, 0, 0);
            x.game(true);
            orderIs(x, 0, 1, 0, 1, 2);
            picksAs(x, 0, 2);
            x.game(true);
            orderIs(x, 0, 2, 0, 1, 2);
            x.game(true);
            orderIs(x, 0, 2, 2, 0, 1);
        });
        term(4, "LAST: how often a BOY was the last one taken.", () -> {
            WallPicks x = wallOf(1);
            due("no summers", x.last(0), 0);
            x.game(true);
            due("one boy", x.last(0), 1);
            x.boy(0, 2, -1);
            x.game(false);
            due("not kept", x.last(1), 0);
            for (int i = 1; i <= 11; i++) {
                x.game(true);
                due("the last one", x.last(1), i);
                due("as it was", x.last(0), 1);
            }
        });
        term(4, "THE IMAGE: all that there is (but THE IMAGE and THE TRACE).", TermBoundaries::imageOfAll);
    }

    private static void orderIs(WallPicks x, int captain, int slips, int... order) {
        due("slips of " + captain, x.order(captain, -1), slips);
        for (int i = 0; i < order.length; i++) {
            due("order of " + captain + " at " + i, x.order(captain, i), order[i]);
        }
    }

    /** Each call that changes something comes alone behind an image, and is undone. */
    private static void imageOfAll() {
        History[] changes = {
            x -> x.boy(0, 7, 0), x -> x.play(3), x -> x.play(2), x -> x.feed('k', 1), WallPicks::yard,
            TermBoundaries::anotherYard, x -> x.has(0, 1), x -> x.has(1, -1), x -> x.turns(1), x -> x.told(1),
            x -> x.told(-1), x -> x.way(0, 4), x -> x.way(1, 0), x -> x.list(0, 1), x -> x.list(2, 1), x -> x.list(1, -1),
            x -> x.give(0, -1), x -> x.give(1, 0), x -> x.game(false), x -> x.game(true), x -> x.row(0),
            x -> x.row(-1),
        };
        String whole = Whole.of(after(TermBoundaries::imaged));
        for (int i = 0; i < changes.length; i++) {
            WallPicks x = after(TermBoundaries::imaged);
            changes[i].on(x);
            due("undo of change " + i, x.undo(), 4);
            due("all is as it was, which", Whole.of(x).equals(whole) ? 1 : 0, 1);
        }
        WallPicks x = after(TermBoundaries::imaged);
        x.act(0, 0, 1);
        x.undo();
        due("the trace stays", x.trace(0), 11);
        due("the trace stays", x.count(6), 2);
        x.boy(0, 1, -1);
        due("the image stays", x.undo(), 4);
        due("the image stays", x.count(0), 4);
    }

    private static void anotherYard(WallPicks x) {
        x.yard();
        settle(x, 0, "lack 3 3");
    }

    private static void imaged(WallPicks x) {
        some(x);
        x.image();
    }

    // ---- 5 refusals

    private static void refusals() {
        term(5, "REFUSALS, of several the first one told", () -> {
            refused(TermBoundaries::some, "boy: none, bad", NONE, x -> x.boy(4, 21, 0));
            refused(TermBoundaries::some, "boy: none, bad", NONE, x -> x.boy(0, -1, 3));
            refused(TermBoundaries::eight, "boy: none, full", NONE, x -> x.boy(4, 0, 0));
            refused(TermBoundaries::eight, "boy: none, full", NONE, x -> x.boy(0, 0, 3));
            refused(TermBoundaries::eight, "boy: bad, full", BAD, x -> x.boy(0, 21, 0));
            refused(TermBoundaries::fullTape, "feed: bad, full", BAD, x -> x.feed(0, 9));
            refused(TermBoundaries::some, "worth: none, bad", -1001, x -> x.worth(3, -1));
            refused(TermBoundaries::eightTold, "told: none, full", NONE, x -> x.told(3));
            refused(TermBoundaries::eightPicks, "row: none, full", NONE, x -> x.row(8));
            History full = x -> picksAs(x, 0, 0, 0, 0, 0, 0, 0, 0, 0);
            refused(full, "list: none, full", NONE, x -> x.list(0, 8));
            refused(TermBoundaries::some, "cut: none, bad", NONE, x -> x.cut(3, 3, 0));
            refused(TermBoundaries::some, "cut: none, bad", NONE, x -> x.cut(0, 0, 2));
            refused(TermBoundaries::some, "trades: none, bad", NONE, x -> x.trades(3, 3, 0));
            refused(TermBoundaries::some, "trades: none, bad", NONE, x -> x.trades(0, 0, 2));
            refused(TermBoundaries::some, "trade: none, bad", NONE, x -> x.trade(3, 3));
            refused(TermBoundaries::some, "thought: none, bad", NONE, x -> x.thought(3, 0, 0));
            refused(TermBoundaries::some, "thought: none, bad", NONE, x -> x.thought(0, 4, 4));
            refused(TermBoundaries::eight, "order: none, -9", NONE, x -> x.order(3, 0));
            refused(TermBoundaries::eight, "order: -9, none", -9, x -> x.order(0, 9));
        });
        term(5, "NONE there is no such BOY, CAPTAIN (that PLAYS), YARD, KIND, what, i", () -> {
            refused(TermBoundaries::some, "boy", NONE, x -> x.of(4, 0));
            refused(TermBoundaries::some, "captain", NONE, x -> x.side(3));
            refused(TermBoundaries::eight, "captain that plays", NONE, x -> x.side(2));
            refused(TermBoundaries::some, "yard", NONE, x -> x.has(0, 2));
            refused(TermBoundaries::some, "kind", NONE, x -> x.way(0, 7));
            refused(TermBoundaries::some, "what", NONE, x -> x.count(7));
            refused(TermBoundaries::some, "i", NONE, x -> x.trace(4));
        });
        term(5, "They change nothing.", () -> {
            refused(TermBoundaries::some, "none", NONE, x -> x.way(0, 7));
            refused(TermBoundaries::some, "bad", BAD, x -> x.play(1));
            refused(TermBoundaries::eight, "state", STATE, WallPicks::undo);
            refused(TermBoundaries::fullTape, "full", FULL, x -> x.feed(0, 1));
            refused(TermBoundaries::some, "-1001", -1001, x -> x.value(3));
            refused(TermBoundaries::some, "-1002", -1002, x -> x.worth(0, 16));
            refused(TermBoundaries::some, "-6", -6, x -> x.as(0, 2));
            refused(TermBoundaries::eight, "-9", -9, x -> x.order(0, 0));
        });
    }

    private static void fullTape(WallPicks x) {
        some(x);
        for (int size = 3; size < 120; size += 8) {
            x.feed(-1, Math.min(8, 120 - size));
        }
    }
}
