import java.util.ArrayList;
import java.util.Arrays;
import java.util.HashMap;
import java.util.List;
import java.util.Map;

/** The document once more, slow and plain, with the Java library: what random runs are compared with. */
final class PlainWall {
    private static final int[] ABOVE = {-1, 0, 0, 1, 2, 0, 1};

    /** All that an image keeps; copied whole. */
    private static final class Now {
        List<int[]> boys = new ArrayList<>();
        int playing = 2;
        String tape = "";
        List<String> yards = new ArrayList<>();
        int[] yardOf = {-1, -1, -1};
        int turns;
        List<Integer> told = new ArrayList<>();
        int[] ways = new int[3];
        List<List<Integer>> lists = List.of(new ArrayList<>(), new ArrayList<>(), new ArrayList<>());
        int[] holder = {-1, -1, -1, -1, -1, -1, -1, -1};
        List<Integer> row = new ArrayList<>();
        List<List<int[]>> summers = new ArrayList<>();

        Now copy() {
            Now other = new Now();
            other.boys = new ArrayList<>(boys);
            other.playing = playing;
            other.tape = tape;
            other.yards = new ArrayList<>(yards);
            other.yardOf = yardOf.clone();
            other.turns = turns;
            other.told = new ArrayList<>(told);
            other.ways = ways.clone();
            other.lists = List.of(new ArrayList<>(lists.get(0)), new ArrayList<>(lists.get(1)),
                new ArrayList<>(lists.get(2)));
            other.holder = holder.clone();
            other.row = new ArrayList<>(row);
            other.summers = new ArrayList<>(summers);
            return other;
        }
    }

    private Now now = new Now();
    private Now image;
    // Reading a yard is slow: what was read is kept till a boy, a yard or an image comes.
    private final Map<Integer, Integer> worths = new HashMap<>();
    private List<Integer> trace = new ArrayList<>();

    int boy(int place, int strength, int friend) {
        if (place < 0 || place > 3 || friend < -1 || friend > 2) {
            return -1;
        }
        if (strength < 0 || strength > 20) {
            return -2;
        }
        if (now.boys.size() == 8) {
            return -4;
        }
        worths.clear();
        now.boys.add(new int[] {place, strength, friend == -1 ? 9 : friend});
        return now.boys.size() - 1;
    }

    int of(int boy, int what) {
        if (noBoy(boy) || what < 0 || what > 2) {
            return -1;
        }
        int trait = now.boys.get(boy)[what];
        return what == 2 && trait == 9 ? -5 : trait;
    }

    int play(int n) {
        if (n != 2 && n != 3) {
            return -2;
        }
        int before = now.playing;
        now.playing = n;
        Arrays.fill(now.holder, -1);
        return before;
    }

    int feed(long w, int n) {
        if (n < 1 || n > 8) {
            return -2;
        }
        if (now.tape.length() + n > 120) {
            return -4;
        }
        String come = "";
        for (int i = 0; i < n; i++) {
            come = (char) (w >> 8 * i & 255) + come;
        }
        now.tape += come;
        return now.tape.length();
    }

    int yard() {
        if (now.yards.size() == 6) {
            return -4;
        }
        String text = now.tape;
        now.tape = "";
        int fault = PlainYard.fault(text);
        if (fault >= 0) {
            return -10 - fault;
        }
        now.yards.add(text);
        return now.yards.size() - 1;
    }

    int has(int captain, int yard) {
        if (captain < 0 || captain > 2 || yard < -1 || yard >= now.yards.size()) {
            return -1;
        }
        int before = now.yardOf[captain];
        now.yardOf[captain] = yard;
        worths.clear();
        return before == -1 ? -5 : before;
    }

    int worth(int captain, int side) {
        if (captain < 0 || captain > 2) {
            return -1001;
        }
        return side < 0 || side >= 1 << now.boys.size() ? -1002 : worthOf(captain, members(side));
    }

    int turns(int kind) {
        if (kind < 0 || kind > 3) {
            return -1;
        }
        int before = now.turns;
        now.turns = kind;
        return before;
    }

    int told(int captain) {
        return captain < -1 || captain > 2 ? -1 : comes(now.told, captain);
    }

    int turn(int t) {
        return t < 0 || t > 7 ? -1 : taker(now.turns, t);
    }

    int way(int captain, int kind) {
        if (captain < 0 || captain > 2 || kind < 0 || kind > 6) {
            return -1;
        }
        int before = now.ways[captain];
        now.ways[captain] = kind;
        return before;
    }

    int list(int captain, int boy) {
        return captain < 0 || captain > 2 || boy < -1 || boy > 7 ? -1 : comes(now.lists.get(captain), boy);
    }

    int give(int boy, int captain) {
        if (noBoy(boy) || captain < -1 || captain >= now.playing) {
            return -1;
        }
        int before = now.holder[boy];
        now.holder[boy] = captain;
        return before == -1 ? -5 : before;
    }

    int side(int captain) {
        return captain < 0 || captain >= now.playing ? -1 : bits(side(now.holder, captain));
    }

    int picks(int captain) {
        return captain < 0 || captain >= now.playing ? -1 : pick(now.holder, captain);
    }

    int game(boolean kept) {
        Arrays.fill(now.holder, -1);
        List<int[]> picks = new ArrayList<>();
        for (int t = 0; t < now.boys.size(); t++) {
            int captain = taker(now.turns, t);
            int boy = pick(now.holder, captain);
            now.holder[boy] = captain;
            picks.add(new int[] {captain, boy});
        }
        if (kept && !picks.isEmpty() && now.summers.size() < 12) {
            now.summers.add(picks);
        }
        return now.boys.size();
    }

    int best() {
        return left(now.holder).isEmpty() ? -5
            : bestPick(now.holder, taker(now.turns, taken(now.holder)), now.turns, false);
    }

    int value(int captain) {
        return captain < 0 || captain >= now.playing ? -1001 : value(now.holder, captain, now.turns, false);
    }

    int row(int boy) {
        return boy < -1 || boy > 7 ? -1 : comes(now.row, boy);
    }

    int judged(int what) {
        if (what < 0 || what > 2) {
            return -1;
        }
        int slip = -5;
        int loss = 0;
        int[] holder = nobody();
        for (int t = 0; t < now.row.size(); t++) {
            int boy = now.row.get(t);
            if (noBoy(boy) || holder[boy] >= 0) {
                return what == 0 ? t : what == 1 ? slip : loss;
            }
            int captain = taker(now.turns, t);
            int ahead = value(holder, captain, now.turns, false);
            holder[boy] = captain;
            int behind = value(holder, captain, now.turns, false);
            if (slip == -5 && behind < ahead) {
                slip = t;
                loss = ahead - behind;
            }
        }
        return what == 0 ? -5 : what == 1 ? slip : loss;
    }

    int first(int turns) {
        if (turns < 0 || turns > 2) {
            return -1001;
        }
        return value(nobody(), 0, turns, false) - value(nobody(), 0, turns, true);
    }

    int fairest() {
        int[] apart = {Math.abs(first(0)), Math.abs(first(1)), Math.abs(first(2))};
        int least = Math.min(apart[0], Math.min(apart[1], apart[2]));
        return apart[0] == least ? 0 : apart[1] == least ? 1 : 2;
    }

    int even(int what) {
        int n = now.boys.size();
        int side = -1;
        int apart = -1;
        for (int bits = (1 << n) - 1; bits >= 0; bits--) {
            if (members(bits).size() == n - members(bits).size() - n % 2) {
                int gap = 0;
                for (int boy = 0; boy < n; boy++) {
                    gap += (members(bits).contains(boy) ? 1 : -1) * now.boys.get(boy)[1];
                }
                if (side < 0 || Math.abs(gap) <= apart) {
                    side = bits;
                    apart = Math.abs(gap);
                }
            }
        }
        return what == 0 ? side : what == 1 ? apart : -1;
    }

    int cut(int a, int b, int what) {
        if (a < 0 || a > 2 || b < 0 || b > 2 || what < 0 || what > 1) {
            return -1;
        }
        if (a == b) {
            return -2;
        }
        int all = (1 << now.boys.size()) - 1;
        int[] found = null;
        for (int bits = all; bits >= 0; bits--) {
            int one = Math.min(bits, all - bits);
            int two = all - one;
            int rest = worthOf(b, members(two)) > worthOf(b, members(one)) ? one : two;
            int worth = worthOf(a, members(rest));
            if (found == null || worth > found[2] || (worth == found[2] && one < found[0])) {
                found = new int[] {one, rest, worth};
            }
        }
        return found[what];
    }

    int trades(int a, int b, int what) {
        if (a < 0 || a >= now.playing || b < 0 || b >= now.playing || what < 0 || what > 1) {
            return -1;
        }
        if (a == b) {
            return -2;
        }
        List<Integer> found = tradesOf(a, b);
        return what == 0 ? found.size() : found.isEmpty() ? -5 : found.get(0);
    }

    int trade(int a, int b) {
        if (a < 0 || a >= now.playing || b < 0 || b >= now.playing) {
            return -1;
        }
        if (a == b) {
            return -2;
        }
        int done = 0;
        while (done < 20 && !tradesOf(a, b).isEmpty()) {
            int which = tradesOf(a, b).get(0);
            now.holder[which / 10] = b;
            now.holder[which % 10] = a;
            done++;
        }
        return done;
    }

    int thought(int captain, int a, int b) {
        if (captain < 0 || captain > 2 || noBoy(a) || noBoy(b)) {
            return -1;
        }
        if (a == b) {
            return -2;
        }
        int times = 0;
        for (List<int[]> picks : now.summers) {
            boolean took = false;
            for (int[] pick : picks) {
                times += took && pick[1] == b ? 1 : 0;
                took |= pick[0] == captain && pick[1] == a;
            }
        }
        return times;
    }

    int order(int captain, int i) {
        if (captain < 0 || captain > 2) {
            return -1;
        }
        if (now.boys.size() > 6) {
            return -9;
        }
        if (i < -1 || i >= now.boys.size()) {
            return -1;
        }
        List<List<Integer>> orders = new ArrayList<>();
        addOrders(orders, new ArrayList<>());
        List<Integer> found = null;
        int fewest = 0;
        for (List<Integer> order : orders) {
            int slips = slips(captain, order);
            if (found == null || slips < fewest) {
                found = order;
                fewest = slips;
            }
        }
        return i == -1 ? fewest : found.get(i);
    }

    int last(int boy) {
        return noBoy(boy) ? -1 : timesLast(boy);
    }

    int act(int captain, int act, int x) {
        trace = new ArrayList<>();
        if (captain < 0 || captain > 2 || act < 0 || act > 2) {
            return 0;
        }
        int friends = 0;
        for (int[] boy : now.boys) {
            friends += boy[2] == captain ? 1 : 0;
        }
        PlainActs acts = PlainActs.of(now.ways[captain]);
        acts.number = captain;
        acts.friends = friends;
        acts.trace = trace;
        return act == 0 ? acts.picks(x) : act == 1 ? acts.wants(x) : acts.leaves(x);
    }

    int trace(int i) {
        return i < 0 || i >= Math.min(20, trace.size()) ? -1 : trace.get(i);
    }

    int as(int captain, int k) {
        if (captain < 0 || captain > 2 || k < 0 || k > 6) {
            return -1;
        }
        for (int kind = now.ways[captain]; kind >= 0; kind = ABOVE[kind]) {
            if (kind == k) {
                return now.ways[captain];
            }
        }
        return -6;
    }

    int image() {
        image = now.copy();
        return now.boys.size();
    }

    int undo() {
        if (image == null) {
            return -3;
        }
        now = image.copy();
        worths.clear();
        return now.boys.size();
    }

    int count(int what) {
        int[] counts = {now.boys.size(), now.yards.size(), now.playing, now.summers.size(),
            left(now.holder).size(), now.tape.length(), trace.size()};
        return what < 0 || what > 6 ? -1 : counts[what];
    }

    private boolean noBoy(int boy) {
        return boy < 0 || boy >= now.boys.size();
    }

    private static int comes(List<Integer> row, int item) {
        if (item == -1) {
            row.clear();
            return 0;
        }
        if (row.size() == 8) {
            return -4;
        }
        row.add(item);
        return row.size();
    }

    private static int[] nobody() {
        return new int[] {-1, -1, -1, -1, -1, -1, -1, -1};
    }

    private List<Integer> members(int bits) {
        List<Integer> side = new ArrayList<>();
        for (int boy = 0; boy < now.boys.size(); boy++) {
            if ((bits & 1 << boy) != 0) {
                side.add(boy);
            }
        }
        return side;
    }

    private static int bits(List<Integer> side) {
        int bits = 0;
        for (int boy : side) {
            bits += 1 << boy;
        }
        return bits;
    }

    private List<Integer> side(int[] holder, int captain) {
        List<Integer> side = new ArrayList<>();
        for (int boy = 0; boy < now.boys.size(); boy++) {
            if (holder[boy] == captain) {
                side.add(boy);
            }
        }
        return side;
    }

    private List<Integer> left(int[] holder) {
        return side(holder, -1);
    }

    private int taken(int[] holder) {
        return now.boys.size() - left(holder).size();
    }

    private int worthOf(int captain, List<Integer> side) {
        return worths.computeIfAbsent(captain * 256 + bits(side), none -> readWorth(captain, side));
    }

    private int readWorth(int captain, List<Integer> side) {
        int sum = 0;
        for (int boy : side) {
            sum += now.boys.get(boy)[1];
        }
        int yard = now.yardOf[captain];
        return yard < 0 ? sum : sum + PlainYard.worth(now.yards.get(yard), now.boys, side);
    }

    private int taker(int kind, int t) {
        List<Integer> all = new ArrayList<>();
        while (all.size() <= t + 1) {
            int round = all.size() / now.playing;
            for (int i = 0; i < now.playing; i++) {
                if (kind == 2) {
                    all.add(i);
                    all.add(i);
                } else {
                    all.add(kind == 1 && round % 2 == 1 ? now.playing - 1 - i : i);
                }
            }
        }
        boolean byRow = kind == 3 && t < now.told.size() && now.told.get(t) < now.playing;
        return byRow ? now.told.get(t) : all.get(kind == 2 ? t + 1 : t);
    }

    private int greedy(int[] holder, int captain, List<Integer> among) {
        int found = -1;
        int most = 0;
        for (int boy : among) {
            List<Integer> side = side(holder, captain);
            side.add(boy);
            int worth = worthOf(captain, side);
            if (found < 0 || worth > most) {
                found = boy;
                most = worth;
            }
        }
        return found;
    }

    private int pick(int[] holder, int captain) {
        List<Integer> left = left(holder);
        if (left.isEmpty()) {
            return -5;
        }
        int kind = now.ways[captain];
        if (kind == 1) {
            return greedy(holder, captain, left);
        }
        if (kind == 2) {
            int next = taker(now.turns, taken(holder) + 1);
            return greedy(holder, left.size() == 1 ? captain : next, left);
        }
        if (kind == 3) {
            List<Integer> friends = new ArrayList<>(left);
            friends.removeIf(boy -> now.boys.get(boy)[2] != captain);
            return greedy(holder, captain, friends.isEmpty() ? left : friends);
        }
        if (kind == 4) {
            return bestPick(holder, captain, now.turns, false);
        }
        if (kind == 5) {
            List<Integer> listed = new ArrayList<>(now.lists.get(captain));
            listed.retainAll(left);
            return listed.isEmpty() ? left.get(0) : listed.get(0);
        }
        if (kind == 6) {
            int most = 0;
            for (int boy : left) {
                most = Math.max(most, timesLast(boy));
            }
            int often = most;
            left.removeIf(boy -> timesLast(boy) != often);
            return greedy(holder, captain, left);
        }
        return left.get(0);
    }

    private int timesLast(int boy) {
        int times = 0;
        for (List<int[]> picks : now.summers) {
            times += picks.get(picks.size() - 1)[1] == boy ? 1 : 0;
        }
        return times;
    }

    private int bestPick(int[] holder, int captain, int turns, boolean swapped) {
        int found = -1;
        int most = 0;
        for (int boy : left(holder)) {
            int[] then = holder.clone();
            then[boy] = captain;
            int worth = value(then, captain, turns, swapped);
            if (found < 0 || worth > most) {
                found = boy;
                most = worth;
            }
        }
        return found;
    }

    private int value(int[] holder, int captain, int turns, boolean swapped) {
        return worthOf(captain, side(end(holder, turns, swapped), captain));
    }

    /** All goes on to the end: tried out, without anything kept from one try to the next. */
    private int[] end(int[] holder, int turns, boolean swapped) {
        if (left(holder).isEmpty()) {
            return holder;
        }
        int turn = taker(turns, taken(holder));
        int captain = swapped && turn < 2 ? 1 - turn : turn;
        int[] found = null;
        int most = 0;
        for (int boy : left(holder)) {
            int[] then = holder.clone();
            then[boy] = captain;
            int[] end = end(then, turns, swapped);
            int worth = worthOf(captain, side(end, captain));
            if (found == null || worth > most) {
                found = end;
                most = worth;
            }
        }
        return found;
    }

    private List<Integer> tradesOf(int a, int b) {
        List<Integer> found = new ArrayList<>();
        for (Integer own : side(now.holder, a)) {
            for (Integer other : side(now.holder, b)) {
                List<Integer> one = side(now.holder, a);
                List<Integer> two = side(now.holder, b);
                int wasOne = worthOf(a, one);
                int wasTwo = worthOf(b, two);
                one.remove(own);
                one.add(other);
                two.remove(other);
                two.add(own);
                if (worthOf(a, one) > wasOne && worthOf(b, two) > wasTwo) {
                    found.add(10 * own + other);
                }
            }
        }
        return found;
    }

    private void addOrders(List<List<Integer>> orders, List<Integer> start) {
        if (start.size() == now.boys.size()) {
            orders.add(new ArrayList<>(start));
        }
        for (int boy = 0; boy < now.boys.size(); boy++) {
            if (!start.contains(boy)) {
                start.add(boy);
                addOrders(orders, start);
                start.remove(start.size() - 1);
            }
        }
    }

    private int slips(int captain, List<Integer> order) {
        int slips = 0;
        for (List<int[]> picks : now.summers) {
            for (int i = 0; i < picks.size(); i++) {
                boolean slip = false;
                for (int j = i + 1; j < picks.size() && picks.get(i)[0] == captain; j++) {
                    slip |= order.indexOf(picks.get(j)[1]) < order.indexOf(picks.get(i)[1]);
                }
                slips += slip ? 1 : 0;
            }
        }
        return slips;
    }
}
