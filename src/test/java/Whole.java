/** All that an object's answers can tell of it. Asking wears the object out: it is of no use then. */
final class Whole {
    // Some are left of the 512 for what went before.
    private static final int CALLS = 470;

    private final WallPicks x;
    private final StringBuilder seen = new StringBuilder();
    private int calls;

    private Whole(WallPicks x) {
        this.x = x;
    }

    static String of(WallPicks x) {
        Whole whole = new Whole(x);
        whole.look();
        whole.wearOut();
        whole.ask("undo", x.undo());
        whole.look();
        if (whole.calls > CALLS) {
            throw new IllegalStateException("more calls than an object answers for: " + whole.calls);
        }
        return whole.seen.toString();
    }

    private void ask(String call, int answer) {
        seen.append(call).append(' ').append(answer).append('\n');
        calls++;
    }

    private void look() {
        int boys = x.count(0);
        ask("boys", boys);
        for (int i = 0; i < 7; i++) {
            ask("count", x.count(i));
            ask("trace", x.trace(i));
        }
        for (int t = 0; t < 8; t++) {
            ask("turn", x.turn(t));
        }
        for (int boy = 0; boy < boys; boy++) {
            ask("place", x.of(boy, 0));
            ask("strength", x.of(boy, 1));
            ask("friend", x.of(boy, 2));
            ask("last", x.last(boy));
        }
        for (int captain = 0; captain < 3; captain++) {
            lookAt(captain, boys);
        }
    }

    private void lookAt(int captain, int boys) {
        ask("as", x.as(captain, 0));
        ask("side", x.side(captain));
        ask("picks", x.picks(captain));
        ask("value", x.value(captain));
        ask("judged", x.judged(captain));
        ask("worth of all", x.worth(captain, (1 << boys) - 1));
        for (int boy = 0; boy < boys; boy++) {
            ask("worth", x.worth(captain, 1 << boy));
            ask("thought", x.thought(captain, boy, (boy + 1) % boys));
        }
        for (int i = -1; i < boys && boys <= 6; i++) {
            ask("order", x.order(captain, i));
        }
    }

    /** What only calls that change something can tell. */
    private void wearOut() {
        int boys = x.count(0);
        for (int captain = 0; captain < 3; captain++) {
            ask("has", x.has(captain, -1));
        }
        ask("yard", x.yard());
        int yards = x.count(1);
        for (int yard = 0; yard < yards; yard++) {
            ask("has", x.has(0, yard));
            for (int boy = 0; boy < boys; boy++) {
                ask("worth by " + yard, x.worth(0, 1 << boy));
            }
        }
        ask("turns", x.turns(3));
        for (int captain = 0; captain < 3; captain++) {
            ask("play", x.play(3));
            ask("way", x.way(captain, 5));
            for (int i = 0; i < boys; i++) {
                int boy = x.picks(captain);
                ask("listed", boy);
                ask("give", x.give(boy, captain));
            }
            ask("list", x.list(captain, 0));
        }
        for (int t = 0; t < 8; t++) {
            ask("turn of three", x.turn(t));
        }
        ask("told", x.told(0));
        ask("row", x.row(0));
        ask("feed", x.feed(1, 1));
    }
}
