import java.util.Arrays;

/** Boys on a wall, whom captains pick one by one; ../shared/DOC.md tells what each call answers. */
public final class WallPicks {
    public static final int NONE = -1, BAD = -2, STATE = -3, FULL = -4;

    private static final int NOBODY = -5;
    private static final int OTHER_KIND = -6;
    private static final int TOO_MANY = -9;
    private static final int FAULT = -10;
    private static final int NO_WORTH = -1001;
    private static final int BAD_WORTH = -1002;

    private static final int BOYS = 8;
    private static final int CAPTAINS = 3;
    private static final int SIDES = 256;
    private static final int ROW = 8;
    private static final int TAPE = 120;
    private static final int YARDS = 6;
    private static final int SUMMERS = 12;
    private static final int MOST_STRENGTH = 20;
    private static final int PLACES = 4;
    private static final int TRADES = 20;
    /** Beyond every worth and every number of slips. */
    private static final int LEAST = -1000000, MOST = 1000000;

    private static final int PLACE = 0, STRENGTH = 1, FRIENDS = 2, NUMBER = 3, TRAITS = 4;
    private static final int NO_FRIEND = 9;

    private static final int ONE = 0, SNAKE = 1, TWOS = 2, BY_ROW = 3;
    private static final int KINDS = 7;
    private static final int GREEDY = 1, AHEAD = 2, FRIEND = 3, BEST = 4, TOLD = 5, KIND = 6;
    private static final int PICKS = 0, WANTS = 1, LEAVES = 2, ACTS = 3;

    /** Of each KIND the KIND above it. */
    private static final int[] ABOVE = {-1, 0, 0, 1, 2, 0, 1};

    /** Of each KIND its bodies of picks, wants and leaves (0: it has none). */
    private static final int[] BODIES = {
        1, 2, 3,
        11, 0, 0,
        0, 21, 0,
        0, 0, 41,
        51, 0, 0,
        0, 0, 31,
        0, 61, 0,
    };

    private final Wall wall;
    private final Wall saved;
    private final Reader reader;
    private final Ends ends;
    private final Picker picker;
    private final Judge judge;
    private final Shares shares;
    private final Summers summers;
    private final Acts acts;
    private boolean imaged;

    public WallPicks() {
        wall = new Wall();
        saved = new Wall();
        reader = new Reader(wall);
        ends = new Ends(wall);
        picker = new Picker(wall, ends);
        judge = new Judge(wall, ends);
        shares = new Shares(wall);
        summers = new Summers(wall);
        acts = new Acts();
    }

    // ---- boys, captains, yards

    public int boy(int place, int strength, int friend) {
        if (!isIn(place, PLACES) || !isIn(friend + 1, CAPTAINS + 1)) {
            return NONE;
        }
        if (!isIn(strength, MOST_STRENGTH + 1)) {
            return BAD;
        }
        if (wall.boys >= BOYS) {
            return FULL;
        }
        int number = wall.addBoy(place, strength, friend);
        for (int captain = 0; captain < CAPTAINS; captain++) {
            weigh(captain);
        }
        return number;
    }

    public int of(int boy, int what) {
        if (!isIn(boy, wall.boys) || !isIn(what, NUMBER)) {
            return NONE;
        }
        int trait = wall.traitOf(boy, what);
        return what == FRIENDS && trait == NO_FRIEND ? NOBODY : trait;
    }

    public int play(int n) {
        if (n != 2 && n != CAPTAINS) {
            return BAD;
        }
        int before = wall.playing;
        wall.playing = n;
        wall.emptySides();
        return before;
    }

    public int feed(long w, int n) {
        if (n < 1 || n > 8) {
            return BAD;
        }
        if (wall.tape.size + n > TAPE) {
            return FULL;
        }
        for (int i = n - 1; i >= 0; i--) {
            wall.tape.add((int) (w >>> (8 * i)) & 255);
        }
        return wall.tape.size;
    }

    public int yard() {
        if (wall.yardCount >= YARDS) {
            return FULL;
        }
        int fault = reader.read(wall.tape);
        int number = fault < 0 ? wall.addYard(wall.tape) : FAULT - fault;
        wall.tape.empty();
        return number;
    }

    public int has(int captain, int yard) {
        if (!isIn(captain, CAPTAINS) || !isIn(yard + 1, wall.yardCount + 1)) {
            return NONE;
        }
        int before = wall.yardOf(captain);
        wall.setYard(captain, yard);
        weigh(captain);
        return before < 0 ? NOBODY : before;
    }

    public int worth(int captain, int side) {
        if (!isIn(captain, CAPTAINS)) {
            return NO_WORTH;
        }
        return isIn(side, wall.everybody() + 1) ? wall.worthTo(captain, side) : BAD_WORTH;
    }

    // ---- turns, ways, games

    public int turns(int kind) {
        if (!isIn(kind, BY_ROW + 1)) {
            return NONE;
        }
        int before = wall.turnKind;
        wall.turnKind = kind;
        return before;
    }

    public int told(int captain) {
        return isIn(captain + 1, CAPTAINS + 1) ? addTo(wall.toldTakers, captain) : NONE;
    }

    public int turn(int t) {
        return isIn(t, BOYS) ? wall.taker(wall.turnKind, t) : NONE;
    }

    public int way(int captain, int kind) {
        if (!isIn(captain, CAPTAINS) || !isIn(kind, KINDS)) {
            return NONE;
        }
        int before = wall.wayOf(captain);
        wall.setWay(captain, kind);
        return before;
    }

    public int list(int captain, int boy) {
        if (!isIn(captain, CAPTAINS) || !isIn(boy + 1, BOYS + 1)) {
            return NONE;
        }
        return addTo(wall.listOf(captain), boy);
    }

    public int give(int boy, int captain) {
        if (!isIn(boy, wall.boys) || !isIn(captain + 1, wall.playing + 1)) {
            return NONE;
        }
        int before = wall.holderOf(boy);
        wall.hand(boy, captain);
        return before < 0 ? NOBODY : before;
    }

    public int side(int captain) {
        return isIn(captain, wall.playing) ? wall.sideOf(captain) : NONE;
    }

    public int picks(int captain) {
        return isIn(captain, wall.playing) ? picker.pick(captain) : NONE;
    }

    public int game(boolean kept) {
        picker.playGame(kept);
        return wall.boys;
    }

    // ---- the best

    public int best() {
        return ends.bestFor(wall.taker(wall.turnKind, wall.taken()));
    }

    public int value(int captain) {
        if (!isIn(captain, wall.playing)) {
            return NO_WORTH;
        }
        ends.goBy(wall.turnKind, false);
        return ends.valueAt(ends.stateNow(), captain);
    }

    public int row(int boy) {
        return isIn(boy + 1, BOYS + 1) ? addTo(wall.toldPicks, boy) : NONE;
    }

    public int judged(int what) {
        if (!isIn(what, 3)) {
            return NONE;
        }
        judge.goThrough(wall.toldPicks);
        if (what == 0) {
            return judge.wrong;
        }
        return what == 1 ? judge.slip : judge.loss;
    }

    public int first(int turns) {
        return isIn(turns, BY_ROW) ? judge.firstBy(turns) : NO_WORTH;
    }

    public int fairest() {
        int fair = ONE;
        int least = MOST;
        for (int kind = ONE; kind <= TWOS; kind++) {
            int apart = Math.abs(judge.firstBy(kind));
            if (apart < least) {
                fair = kind;
                least = apart;
            }
        }
        return fair;
    }

    // ---- even sides, cutting, trades

    public int even(int what) {
        if (!isIn(what, 2)) {
            return NONE;
        }
        shares.makeEven();
        return what == 0 ? shares.firstSide : shares.apart;
    }

    public int cut(int a, int b, int what) {
        if (!isIn(a, CAPTAINS) || !isIn(b, CAPTAINS) || !isIn(what, 2)) {
            return NONE;
        }
        if (a == b) {
            return BAD;
        }
        shares.makeCut(a, b);
        return what == 0 ? shares.firstSide : shares.cuttersSide;
    }

    public int trades(int a, int b, int what) {
        if (!isIn(a, wall.playing) || !isIn(b, wall.playing) || !isIn(what, 2)) {
            return NONE;
        }
        if (a == b) {
            return BAD;
        }
        shares.findTrades(a, b);
        return what == 0 ? shares.tradeCount : shares.firstTrade;
    }

    public int trade(int a, int b) {
        if (!isIn(a, wall.playing) || !isIn(b, wall.playing)) {
            return NONE;
        }
        return a == b ? BAD : shares.tradeOn(a, b);
    }

    // ---- summers

    public int thought(int captain, int a, int b) {
        if (!isIn(captain, CAPTAINS) || !isIn(a, wall.boys) || !isIn(b, wall.boys)) {
            return NONE;
        }
        return a == b ? BAD : summers.tookAhead(captain, a, b);
    }

    public int order(int captain, int i) {
        if (!isIn(captain, CAPTAINS)) {
            return NONE;
        }
        if (wall.boys > Summers.ORDERED) {
            return TOO_MANY;
        }
        if (!isIn(i + 1, wall.boys + 1)) {
            return NONE;
        }
        summers.reckonSlips(captain);
        return i < 0 ? summers.fewestSlips() : summers.orderedAt(i);
    }

    public int last(int boy) {
        return isIn(boy, wall.boys) ? wall.timesLast(boy) : NONE;
    }

    // ---- acts, the image

    public int act(int captain, int act, int x) {
        acts.forget();
        if (!isIn(captain, CAPTAINS) || !isIn(act, ACTS)) {
            return 0;
        }
        int friends = Integer.bitCount(wall.friendsOf(captain));
        return acts.perform(wall.wayOf(captain), captain, friends, act, x);
    }

    public int trace(int i) {
        return isIn(i, acts.trace.size) ? acts.trace.at(i) : NONE;
    }

    public int as(int captain, int k) {
        if (!isIn(captain, CAPTAINS) || !isIn(k, KINDS)) {
            return NONE;
        }
        int kind = wall.wayOf(captain);
        return Acts.isUnder(kind, k) ? kind : OTHER_KIND;
    }

    public int image() {
        saved.copyFrom(wall);
        imaged = true;
        return wall.boys;
    }

    public int undo() {
        if (!imaged) {
            return STATE;
        }
        wall.copyFrom(saved);
        return wall.boys;
    }

    public int count(int what) {
        switch (what) {
            case 0: return wall.boys;
            case 1: return wall.yardCount;
            case 2: return wall.playing;
            case 3: return wall.summerCount;
            case 4: return Integer.bitCount(wall.left());
            case 5: return wall.tape.size;
            case 6: return acts.ran;
            default: return NONE;
        }
    }

    // ---- helpers of the face

    private static boolean isIn(int i, int size) {
        return i >= 0 && i < size;
    }

    /** An item comes to a row, or with -1 all of them go, as told(), list() and row() have it. */
    private static int addTo(Row row, int item) {
        if (row == null) {
            return NONE;
        }
        if (item < 0) {
            row.empty();
            return 0;
        }
        return row.isFull() ? FULL : row.add(item);
    }

    /** Worths are kept for all sides, as the best asks for the same ones many times. */
    private void weigh(int captain) {
        reader.read(wall.yardText(captain));
        int all = wall.everybody();
        for (int side = 0; side < SIDES && side <= all; side++) {
            wall.setWorth(captain, side, wall.strengthsOf(side) + reader.clausesWorth(side));
        }
        wall.version++;
    }

    /** Ints as they come, up to a limit. */
    private static final class Row {
        final int[] items;
        int size;

        Row(int limit) {
            items = new int[Math.max(limit, 0)];
        }

        boolean isFull() {
            return size >= items.length;
        }

        int add(int item) {
            if (size >= 0 && size < items.length) {
                items[size] = item;
                size++;
            }
            return size;
        }

        int at(int i) {
            return i >= 0 && i < size && i < items.length ? items[i] : NONE;
        }

        void empty() {
            size = 0;
        }

        void copyFrom(Row other) {
            if (other != null) {
                copyInts(other.items, items);
                size = Math.min(other.size, items.length);
            }
        }

        static void copyInts(int[] from, int[] to) {
            System.arraycopy(from, 0, to, 0, Math.min(from.length, to.length));
        }

        static Row[] rows(int count, int limit) {
            Row[] rows = new Row[Math.max(count, 0)];
            for (int i = 0; i < rows.length; i++) {
                rows[i] = new Row(limit);
            }
            return rows;
        }

        static void copyRows(Row[] from, Row[] to) {
            for (int i = 0; i < from.length && i < to.length; i++) {
                if (to[i] != null) {
                    to[i].copyFrom(from[i]);
                }
            }
        }
    }

    /** All that an image keeps. */
    private static final class Wall {
        int boys;
        int playing = 2;
        int yardCount;
        int turnKind = ONE;
        int summerCount;
        // Told up whenever worths may be others, so that what was reckoned by them is known as old.
        int version;
        final Row tape = new Row(TAPE);
        final Row toldTakers = new Row(ROW);
        final Row toldPicks = new Row(ROW);
        private final int[] traits = new int[BOYS * TRAITS];
        private final int[] yardNumbers = new int[CAPTAINS];
        private final int[] ways = new int[CAPTAINS];
        private final int[] sides = new int[CAPTAINS];
        private final int[] worths = new int[CAPTAINS * SIDES];
        private final Row[] yards = Row.rows(YARDS, TAPE);
        private final Row[] lists = Row.rows(CAPTAINS, ROW);
        private final Row[] summers = Row.rows(SUMMERS, BOYS);

        Wall() {
            Arrays.fill(yardNumbers, -1);
        }

        void copyFrom(Wall other) {
            boys = other.boys;
            playing = other.playing;
            yardCount = other.yardCount;
            turnKind = other.turnKind;
            summerCount = other.summerCount;
            version++;
            tape.copyFrom(other.tape);
            toldTakers.copyFrom(other.toldTakers);
            toldPicks.copyFrom(other.toldPicks);
            Row.copyInts(other.traits, traits);
            Row.copyInts(other.yardNumbers, yardNumbers);
            Row.copyInts(other.ways, ways);
            Row.copyInts(other.sides, sides);
            Row.copyInts(other.worths, worths);
            Row.copyRows(other.yards, yards);
            Row.copyRows(other.lists, lists);
            Row.copyRows(other.summers, summers);
        }

        // -- boys

        int addBoy(int place, int strength, int friend) {
            int number = boys;
            int from = number * TRAITS;
            if (number >= 0 && from + NUMBER < traits.length) {
                traits[from + PLACE] = place;
                traits[from + STRENGTH] = strength;
                traits[from + FRIENDS] = friend < 0 ? NO_FRIEND : friend;
                traits[from + NUMBER] = number;
                boys++;
            }
            return number;
        }

        int traitOf(int boy, int what) {
            int i = boy * TRAITS + what;
            return i >= 0 && i < traits.length ? traits[i] : NONE;
        }

        int everybody() {
            return (1 << boys) - 1;
        }

        /** Those of whom a trait is less than a number (sign -1), that number (0) or more (1). */
        int allOf(int what, int sign, int number) {
            int mask = 0;
            for (int boy = 0; boy < boys; boy++) {
                int trait = traitOf(boy, what);
                int found = trait < number ? -1 : trait > number ? 1 : 0;
                mask |= found == sign ? 1 << boy : 0;
            }
            return mask;
        }

        int friendsOf(int captain) {
            return allOf(FRIENDS, 0, captain);
        }

        int strengthsOf(int side) {
            int sum = 0;
            for (int boy = 0; boy < boys; boy++) {
                if ((side >> boy & 1) == 1) {
                    sum += traitOf(boy, STRENGTH);
                }
            }
            return sum;
        }

        // -- yards and worths

        int addYard(Row text) {
            int number = yardCount;
            if (isIn(number, yards.length) && yards[number] != null) {
                yards[number].copyFrom(text);
                yardCount++;
            }
            return number;
        }

        int yardOf(int captain) {
            return isIn(captain, yardNumbers.length) ? yardNumbers[captain] : -1;
        }

        void setYard(int captain, int yard) {
            if (isIn(captain, yardNumbers.length)) {
                yardNumbers[captain] = yard;
            }
        }

        /** The text of a captain's yard; null: he has none. */
        Row yardText(int captain) {
            int yard = yardOf(captain);
            return isIn(yard, yards.length) ? yards[yard] : null;
        }

        int worthTo(int captain, int side) {
            int i = captain * SIDES + side;
            return isIn(side, SIDES) && isIn(i, worths.length) ? worths[i] : 0;
        }

        void setWorth(int captain, int side, int worth) {
            int i = captain * SIDES + side;
            if (isIn(side, SIDES) && isIn(i, worths.length)) {
                worths[i] = worth;
            }
        }

        // -- turns and ways

        int taker(int kind, int t) {
            int width = playing == CAPTAINS ? CAPTAINS : 2;
            if (kind == SNAKE) {
                int step = t % (2 * width);
                return step < width ? step : 2 * width - 1 - step;
            }
            if (kind == TWOS) {
                return (t + 1) / 2 % width;
            }
            if (kind == BY_ROW && isIn(toldTakers.at(t), width)) {
                return toldTakers.at(t);
            }
            return t % width;
        }

        int wayOf(int captain) {
            return isIn(captain, ways.length) ? ways[captain] : 0;
        }

        void setWay(int captain, int kind) {
            if (isIn(captain, ways.length)) {
                ways[captain] = kind;
            }
        }

        Row listOf(int captain) {
            return isIn(captain, lists.length) ? lists[captain] : null;
        }

        // -- sides now

        void emptySides() {
            Arrays.fill(sides, 0);
        }

        int sideOf(int captain) {
            return isIn(captain, sides.length) ? sides[captain] : 0;
        }

        int holderOf(int boy) {
            for (int captain = 0; captain < CAPTAINS; captain++) {
                if ((sideOf(captain) >> boy & 1) == 1) {
                    return captain;
                }
            }
            return -1;
        }

        /** A boy goes to a captain (-1: to nobody), from whoever had him. */
        void hand(int boy, int captain) {
            for (int i = 0; i < sides.length; i++) {
                sides[i] &= ~(1 << boy);
            }
            if (isIn(captain, sides.length)) {
                sides[captain] |= 1 << boy;
            }
        }

        int left() {
            return everybody() & ~(sideOf(0) | sideOf(1) | sideOf(2));
        }

        int taken() {
            return boys - Integer.bitCount(left());
        }

        // -- summers: of each pick the captain times 8 and the boy

        void addSummer(Row took) {
            if (isIn(summerCount, summers.length) && summers[summerCount] != null) {
                summers[summerCount].copyFrom(took);
                summerCount++;
            }
        }

        Row summer(int i) {
            return isIn(i, summers.length) ? summers[i] : null;
        }

        int timesLast(int boy) {
            int times = 0;
            for (int i = 0; i < summerCount; i++) {
                Row took = summer(i);
                if (took != null && took.size > 0 && took.at(took.size - 1) % BOYS == boy) {
                    times++;
                }
            }
            return times;
        }
    }

    /** Reads a yard's text: its fault, or what its clauses say of the boys that there are. */
    private static final class Reader {
        private static final int CLAUSES = 10;
        private static final int OPEN = 5;

        private final Wall wall;
        private final int[] words = new int[CLAUSES];
        private final int[] numbers = new int[CLAUSES];
        private final int[] masks = new int[CLAUSES];
        private int clauses;
        private int[] bytes = new int[0];
        private int size;
        private int at;
        // -1 behind the last byte and behind a fault, so that nothing more is read then.
        private int next;
        private int fault;

        Reader(Wall wall) {
            this.wall = wall;
        }

        /** The fault (-1: none). No text is one without clauses. */
        int read(Row text) {
            clauses = 0;
            fault = -1;
            if (text == null) {
                return fault;
            }
            bytes = text.items;
            size = text.size;
            at = -1;
            step();
            readClause();
            for (int i = 1; i < CLAUSES && next == ';'; i++) {
                step();
                readClause();
            }
            if (at < size) {
                fail();
            }
            return fault;
        }

        int clausesWorth(int side) {
            int sum = 0;
            for (int i = 0; i < clauses && i < CLAUSES; i++) {
                int met = side & masks[i];
                if (words[i] == 'm') {
                    sum += numbers[i] * Integer.bitCount(met);
                } else if (words[i] == 'b') {
                    sum += met == masks[i] ? numbers[i] : 0;
                } else {
                    sum -= met == 0 ? numbers[i] : 0;
                }
            }
            return sum;
        }

        private void step() {
            at++;
            next = at >= 0 && at < size && at < bytes.length ? bytes[at] : -1;
        }

        private void fail() {
            if (fault < 0) {
                fault = at;
            }
            next = -1;
        }

        private void expect(int sign) {
            if (next == sign) {
                step();
            } else {
                fail();
            }
        }

        private void readClause() {
            int word = next;
            String rest = word == 'm' ? "ark " : word == 'b' ? "oth " : "ack ";
            if (word != 'm' && word != 'b' && word != 'l') {
                fail();
                return;
            }
            step();
            for (int i = 0; i < rest.length(); i++) {
                expect(rest.charAt(i));
            }
            int number = readNumber();
            expect(' ');
            int mask = word == 'm' ? readWish(0) : word == 'b' ? readPair() : readPlace();
            if (fault < 0 && isIn(clauses, CLAUSES)) {
                words[clauses] = word;
                numbers[clauses] = number;
                masks[clauses] = mask;
                clauses++;
            }
        }

        private int readPair() {
            int a = readDigit(BOYS);
            expect(' ');
            return 1 << a | 1 << readDigit(BOYS);
        }

        private int readPlace() {
            return wall.allOf(PLACE, 0, readDigit(PLACES));
        }

        private int readDigit(int limit) {
            int digit = next - '0';
            if (digit < 0 || digit >= limit) {
                fail();
                return 0;
            }
            step();
            return digit;
        }

        /** Stops behind a 0 and behind two digits: what comes there is not the number's. */
        private int readNumber() {
            int number = -1;
            for (int i = 0; i < 2 && number != 0 && next >= '0' && next <= '9'; i++) {
                number = Math.max(number, 0) * 10 + next - '0';
                step();
            }
            if (number < 0) {
                fail();
            }
            return number;
        }

        /** An E, as the boys for whom it holds; & binds closer than |. */
        private int readWish(int open) {
            int any = 0;
            int all = readPart(open);
            for (int i = 0; i < TAPE && (next == '|' || next == '&'); i++) {
                boolean or = next == '|';
                step();
                int part = readPart(open);
                any |= or ? all : 0;
                all = or ? part : all & part;
            }
            return any | all;
        }

        /** An F: a test, or what is behind ! and (. */
        private int readPart(int open) {
            if (next == '!' || next == '(') {
                return readOpened(open);
            }
            int what = next == 'p' ? PLACE : next == 's' ? STRENGTH : next == 'f' ? FRIENDS : NUMBER;
            if (what == NUMBER && next != 'n') {
                fail();
                return 0;
            }
            step();
            int sign = next - '=';
            if (sign < -1 || sign > 1) {
                fail();
                return 0;
            }
            step();
            return wall.allOf(what, sign, readNumber());
        }

        private int readOpened(int open) {
            boolean not = next == '!';
            if (open >= OPEN) {
                fail();
                return 0;
            }
            step();
            if (not) {
                return wall.everybody() & ~readPart(open + 1);
            }
            int mask = readWish(open + 1);
            if (next == ')') {
                step();
            } else {
                fail();
            }
            return mask;
        }
    }

    /**
     * What is best, from the last boy back. A state of the sides has two bits a boy, one in its
     * lower byte and one in its upper: 0 he is left, else the captain who has him and 1 more.
     */
    private static final class Ends {
        private static final int STATES = 1 << 2 * BOYS;

        private final Wall wall;
        private final int[] takers = new int[BOYS];
        // Of a state the stamp under which it was reckoned, above the state that it comes to: a new
        // stamp makes all of them old without a loop (one too great for the bits finds none again).
        private final int[] reckoned = new int[STATES];
        private int stamp;
        private int version = -1;

        Ends(Wall wall) {
            this.wall = wall;
        }

        /** All goes on by these turns; swapped: captain 1 takes for 0, and 0 for 1. */
        void goBy(int kind, boolean swapped) {
            boolean same = version == wall.version;
            for (int t = 0; t < takers.length; t++) {
                int taker = wall.taker(kind, t);
                if (swapped && taker < 2) {
                    taker = 1 - taker;
                }
                same &= takers[t] == taker;
                takers[t] = taker;
            }
            version = wall.version;
            stamp += same ? 0 : 1;
        }

        int stateNow() {
            int both = wall.sideOf(2);
            return wall.sideOf(0) | both | (wall.sideOf(1) | both) << BOYS;
        }

        int takerAt(int state) {
            int t = Integer.bitCount(takenIn(state));
            return isIn(t, takers.length) ? takers[t] : 0;
        }

        /** The boy whom a captain takes best now, whoever's turn it is; -5: nobody is left. */
        int bestFor(int captain) {
            goBy(wall.turnKind, false);
            return choose(stateNow(), captain, 0);
        }

        int valueAt(int state, int captain) {
            return wall.worthTo(captain, sideIn(endOf(state, 0), captain));
        }

        private int choose(int state, int captain, int depth) {
            int left = wall.everybody() & ~takenIn(state);
            int chosen = NOBODY;
            int most = LEAST;
            for (int boy = 0; boy < BOYS; boy++) {
                if ((left >> boy & 1) == 1) {
                    int end = endOf(with(state, boy, captain), depth + 1);
                    int worth = wall.worthTo(captain, sideIn(end, captain));
                    if (worth > most) {
                        chosen = boy;
                        most = worth;
                    }
                }
            }
            return chosen;
        }

        private int endOf(int state, int depth) {
            boolean ended = takenIn(state) == wall.everybody();
            if (ended || depth > BOYS || !isIn(state, reckoned.length)) {
                return state;
            }
            if (reckoned[state] >>> 2 * BOYS == stamp) {
                return reckoned[state] & (STATES - 1);
            }
            int captain = takerAt(state);
            int boy = choose(state, captain, depth);
            int end = boy < 0 ? state : endOf(with(state, boy, captain), depth + 1);
            reckoned[state] = stamp << 2 * BOYS | end;
            return end;
        }

        static int with(int state, int boy, int captain) {
            int bits = captain + 1;
            return state | (bits & 1) << boy | (bits >> 1) << boy + BOYS;
        }

        static int takenIn(int state) {
            return (state | state >> BOYS) & (SIDES - 1);
        }

        static int sideIn(int state, int captain) {
            int low = state & (SIDES - 1);
            int high = state >> BOYS & (SIDES - 1);
            if (captain == 0) {
                return low & ~high;
            }
            return captain == 1 ? high & ~low : low & high;
        }
    }

    /** What captains pick by their ways, and games of such picks. */
    private static final class Picker {
        private final Wall wall;
        private final Ends ends;
        private final Row took = new Row(BOYS);

        Picker(Wall wall, Ends ends) {
            this.wall = wall;
            this.ends = ends;
        }

        void playGame(boolean kept) {
            wall.emptySides();
            took.empty();
            for (int t = 0; t < wall.boys; t++) {
                int captain = wall.taker(wall.turnKind, t);
                int boy = pick(captain);
                if (boy >= 0) {
                    wall.hand(boy, captain);
                    took.add(captain * BOYS + boy);
                }
            }
            if (kept && took.size > 0) {
                wall.addSummer(took);
            }
        }

        int pick(int captain) {
            int left = wall.left();
            if (left == 0) {
                return NOBODY;
            }
            switch (wall.wayOf(captain)) {
                case GREEDY: return dearest(captain, left);
                case AHEAD: return dearest(captainAhead(captain, left), left);
                case FRIEND: return dearest(captain, friendsAmong(captain, left));
                case BEST: return ends.bestFor(captain);
                case TOLD: return firstListed(captain, left);
                case KIND: return dearest(captain, oftenestLast(left));
                default: return least(left);
            }
        }

        private static int least(int among) {
            for (int boy = 0; boy < BOYS; boy++) {
                if ((among >> boy & 1) == 1) {
                    return boy;
                }
            }
            return NOBODY;
        }

        /** With whom a captain's side is worth most to him. */
        private int dearest(int captain, int among) {
            int side = wall.sideOf(captain);
            int chosen = NOBODY;
            int most = LEAST;
            for (int boy = 0; boy < BOYS; boy++) {
                if ((among >> boy & 1) == 1) {
                    int worth = wall.worthTo(captain, side | 1 << boy);
                    if (worth > most) {
                        chosen = boy;
                        most = worth;
                    }
                }
            }
            return chosen;
        }

        /** Whose dearest is taken away: the next one's, or his own, if that one can't take any. */
        private int captainAhead(int captain, int left) {
            return Integer.bitCount(left) < 2 ? captain : wall.taker(wall.turnKind, wall.taken() + 1);
        }

        private int friendsAmong(int captain, int left) {
            int own = wall.friendsOf(captain) & left;
            return own == 0 ? left : own;
        }

        private int firstListed(int captain, int left) {
            Row list = wall.listOf(captain);
            for (int i = 0; list != null && i < list.size; i++) {
                if (isIn(list.at(i), BOYS) && (left >> list.at(i) & 1) == 1) {
                    return list.at(i);
                }
            }
            return least(left);
        }

        private int oftenestLast(int left) {
            int most = 0;
            int mask = 0;
            for (int boy = 0; boy < BOYS; boy++) {
                if ((left >> boy & 1) == 1) {
                    int times = wall.timesLast(boy);
                    mask = times > most ? 0 : mask;
                    most = Math.max(most, times);
                    mask |= times == most ? 1 << boy : 0;
                }
            }
            return mask;
        }
    }

    /** Judges a row of picks told by hand, and what going first is worth. */
    private static final class Judge {
        private final Wall wall;
        private final Ends ends;
        int wrong;
        int slip;
        int loss;

        Judge(Wall wall, Ends ends) {
            this.wall = wall;
            this.ends = ends;
        }

        void goThrough(Row told) {
            wrong = NOBODY;
            slip = NOBODY;
            loss = 0;
            ends.goBy(wall.turnKind, false);
            int state = 0;
            for (int t = 0; t < told.size && wrong < 0; t++) {
                int boy = told.at(t);
                if (!isIn(boy, wall.boys) || (Ends.takenIn(state) >> boy & 1) == 1) {
                    wrong = t;
                } else {
                    int captain = ends.takerAt(state);
                    int behind = Ends.with(state, boy, captain);
                    compare(t, ends.valueAt(state, captain), ends.valueAt(behind, captain));
                    state = behind;
                }
            }
        }

        private void compare(int t, int ahead, int behind) {
            if (slip < 0 && behind < ahead) {
                slip = t;
                loss = ahead - behind;
            }
        }

        int firstBy(int kind) {
            ends.goBy(kind, false);
            int straight = ends.valueAt(0, 0);
            ends.goBy(kind, true);
            return straight - ends.valueAt(0, 0);
        }
    }

    /** Boys parted in two sides, and boys traded between two. */
    private static final class Shares {
        private final Wall wall;
        int firstSide;
        int apart;
        int cuttersSide;
        int tradeCount;
        int firstTrade;

        Shares(Wall wall) {
            this.wall = wall;
        }

        void makeEven() {
            int all = wall.everybody();
            apart = MOST;
            for (int side = 0; side <= all; side++) {
                if (Integer.bitCount(side) == wall.boys / 2) {
                    int gap = Math.abs(wall.strengthsOf(side) - wall.strengthsOf(all & ~side));
                    if (gap < apart) {
                        apart = gap;
                        firstSide = side;
                    }
                }
            }
        }

        void makeCut(int a, int b) {
            int all = wall.everybody();
            int most = LEAST;
            // The first side is the lesser one as bits: beyond half of all bits it never is.
            for (int side = 0; side <= all / 2; side++) {
                int other = all & ~side;
                int left = wall.worthTo(b, side) >= wall.worthTo(b, other) ? other : side;
                int worth = wall.worthTo(a, left);
                if (worth > most) {
                    most = worth;
                    firstSide = side;
                    cuttersSide = left;
                }
            }
        }

        void findTrades(int a, int b) {
            tradeCount = 0;
            firstTrade = NOBODY;
            for (int own = 0; own < wall.boys; own++) {
                for (int other = 0; other < wall.boys; other++) {
                    if (isWanted(a, own, other) && isWanted(b, other, own)) {
                        firstTrade = tradeCount == 0 ? 10 * own + other : firstTrade;
                        tradeCount++;
                    }
                }
            }
        }

        /** A captain has the one, and would rather have the other for him. */
        private boolean isWanted(int captain, int gone, int come) {
            int side = wall.sideOf(captain);
            int traded = side & ~(1 << gone) | 1 << come;
            return (side >> gone & 1) == 1 && wall.worthTo(captain, traded) > wall.worthTo(captain, side);
        }

        int tradeOn(int a, int b) {
            for (int done = 0; done < TRADES; done++) {
                findTrades(a, b);
                if (tradeCount == 0) {
                    return done;
                }
                wall.hand(firstTrade / 10, b);
                wall.hand(firstTrade % 10, a);
            }
            return TRADES;
        }
    }

    /** What the picks of the summers that were kept tell of a captain. */
    private static final class Summers {
        static final int ORDERED = 6;

        private final Wall wall;
        // Of each boy and summer who was left when the captain took him (nobody, if he didn't).
        private final int[] leftThen = new int[BOYS * SUMMERS];
        // Of each set of boys the fewest slips of those behind it, if it is the order's beginning.
        private final int[] slipsBehind = new int[1 << ORDERED];

        Summers(Wall wall) {
            this.wall = wall;
        }

        int tookAhead(int captain, int a, int b) {
            int times = 0;
            for (int i = 0; i < wall.summerCount; i++) {
                times += leftWhenTaken(i, captain, a) >> b & 1;
            }
            return times;
        }

        /** Those taken behind a boy in a summer, if that captain took him (else nobody). */
        private int leftWhenTaken(int summer, int captain, int boy) {
            Row took = wall.summer(summer);
            int left = 0;
            for (int i = took == null ? -1 : took.size - 1; i >= 0; i--) {
                if (took.at(i) == captain * BOYS + boy) {
                    return left;
                }
                left |= 1 << (took.at(i) & BOYS - 1);
            }
            return 0;
        }

        void reckonSlips(int captain) {
            for (int i = 0; i < leftThen.length; i++) {
                leftThen[i] = leftWhenTaken(i % SUMMERS, captain, i / SUMMERS);
            }
            int all = wall.everybody() & (slipsBehind.length - 1);
            slipsBehind[all] = 0;
            for (int set = all - 1; set >= 0; set--) {
                int fewest = MOST;
                for (int boy = 0; boy < ORDERED; boy++) {
                    if (((all & ~set) >> boy & 1) == 1) {
                        fewest = Math.min(fewest, slipsWith(set, boy));
                    }
                }
                slipsBehind[set] = fewest;
            }
        }

        private int slipsWith(int ahead, int boy) {
            int behind = ahead | 1 << boy;
            int slips = isIn(behind, slipsBehind.length) ? slipsBehind[behind] : 0;
            for (int i = 0; i < wall.summerCount; i++) {
                int at = boy * SUMMERS + i;
                if (isIn(at, leftThen.length) && (leftThen[at] & ahead) != 0) {
                    slips++;
                }
            }
            return slips;
        }

        int fewestSlips() {
            return slipsBehind[0];
        }

        /** The first order of the best as a row: at each place the least boy who keeps the slips few. */
        int orderedAt(int place) {
            int ahead = 0;
            int boy = NONE;
            for (int i = 0; i <= place && i < ORDERED; i++) {
                boy = nextBehind(ahead);
                ahead |= boy < 0 ? 0 : 1 << boy;
            }
            return boy;
        }

        private int nextBehind(int ahead) {
            for (int boy = 0; boy < wall.boys && boy < ORDERED; boy++) {
                if ((ahead >> boy & 1) == 0 && isIn(ahead, slipsBehind.length)
                        && slipsWith(ahead, boy) == slipsBehind[ahead]) {
                    return boy;
                }
            }
            return NONE;
        }
    }

    /** The acts of ways, and the trace that they leave. */
    private static final class Acts {
        private static final int TRACE = 20;
        private static final int DEEPEST = 40;

        final Row trace = new Row(TRACE);
        int ran;
        private int kind;
        private int number;
        private int friends;

        void forget() {
            trace.empty();
            ran = 0;
        }

        int perform(int kind, int number, int friends, int act, int x) {
            this.kind = kind;
            this.number = number;
            this.friends = friends;
            return run(kind, act, x, 0);
        }

        /** The body of an act that stands at a kind, or at the next kind above that has one. */
        private int run(int from, int act, int x, int depth) {
            int holder = holderOf(from, act);
            int body = bodyAt(holder, act);
            if (body == 0 || depth > DEEPEST) {
                return 0;
            }
            trace.add(body);
            ran++;
            int up = aboveOf(holder);
            int deeper = depth + 1;
            switch (body) {
                case 1: return x + number;
                case 2: return run(kind, PICKS, x, deeper) - friends;
                case 3: return run(kind, WANTS, x, deeper) * 2;
                case 11: return run(up, PICKS, x * 3, deeper);
                case 21: return -run(up, WANTS, x, deeper);
                case 31: return run(up, LEAVES, x, deeper) ^ 7;
                case 41: return run(up, LEAVES, x - 1, deeper) + run(kind, PICKS, 2, deeper);
                case 51: return run(up, PICKS, x, deeper) ^ number;
                case 61: return run(up, WANTS, x, deeper) + friends;
                default: return 0;
            }
        }

        private static int holderOf(int from, int act) {
            int holder = from;
            for (int i = 0; i < KINDS && holder >= 0 && bodyAt(holder, act) == 0; i++) {
                holder = aboveOf(holder);
            }
            return holder;
        }

        private static int bodyAt(int kind, int act) {
            int i = kind * ACTS + act;
            return isIn(act, ACTS) && isIn(i, BODIES.length) ? BODIES[i] : 0;
        }

        private static int aboveOf(int kind) {
            return isIn(kind, ABOVE.length) ? ABOVE[kind] : -1;
        }

        static boolean isUnder(int kind, int other) {
            int above = kind;
            for (int i = 0; i < KINDS && above != other; i++) {
                above = aboveOf(above);
            }
            return above == other;
        }
    }
}
