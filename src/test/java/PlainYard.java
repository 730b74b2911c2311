import java.util.List;
import java.util.regex.Matcher;
import java.util.regex.Pattern;

/** Yards by other means than the program's: whole texts by patterns, faults by trying to go on. */
final class PlainYard {
    private static final String NUMBER = "(?:0|[1-9][0-9]?)";
    private static final Pattern TEST = Pattern.compile("([psfn])([<=>])(" + NUMBER + ")(?![0-9])");
    private static final Pattern READ = Pattern.compile("!#\\d|\\(#\\d\\)|(?<!!)#\\d[&|]#\\d(?!\\d)");
    private static final Pattern MARK = Pattern.compile("mark (" + NUMBER + ") ([^;]*)");
    private static final Pattern BOTH = Pattern.compile("both (" + NUMBER + ") ([0-7]) ([0-7])");
    private static final Pattern LACK = Pattern.compile("lack (" + NUMBER + ") ([0-3])");
    private static final String[] ENDS = {
        "", "1", "=1", "p=1", "mark 1 p=1", "ark 1 p=1", "rk 1 p=1", "k 1 p=1", " 1 p=1", "1 p=1", " p=1",
        "oth 1 0 0", "th 1 0 0", "h 1 0 0", " 1 0 0", "1 0 0", " 0 0", "0 0", " 0", "0",
        "ack 1 0", "ck 1 0", "k 1 0", " 1 0", "1 0",
    };
    private static final String CLOSING = ")))))";

    private PlainYard() {
    }

    /** -1: the text is a yard. */
    static int fault(String text) {
        if (isYard(text)) {
            return -1;
        }
        // What can go on can go on from each of its beginnings, so the longest such beginning is found by halves.
        int most = 0;
        int beyond = text.length() + 1;
        while (beyond - most > 1) {
            int size = (most + beyond) / 2;
            if (canGoOn(text.substring(0, size))) {
                most = size;
            } else {
                beyond = size;
            }
        }
        return most;
    }

    private static boolean canGoOn(String start) {
        for (String end : ENDS) {
            for (int closing = 0; closing <= CLOSING.length(); closing++) {
                if (isYard(start + end + CLOSING.substring(0, closing))) {
                    return true;
                }
            }
        }
        return false;
    }

    private static boolean isYard(String text) {
        String[] clauses = text.split(";", -1);
        boolean all = clauses.length <= 10;
        for (String clause : clauses) {
            Matcher mark = MARK.matcher(clause);
            all &= mark.matches() ? isWish(mark.group(2))
                : BOTH.matcher(clause).matches() || LACK.matcher(clause).matches();
        }
        return all;
    }

    /** Digits stand for what is read already: how many of ! and ( are open in it at once. */
    private static boolean isWish(String text) {
        if (text.indexOf('#') >= 0) {
            return false;
        }
        String now = TEST.matcher(text).replaceAll("#0");
        for (Matcher found = READ.matcher(now); found.find(); found = READ.matcher(now)) {
            int open = 0;
            for (int i = found.start(); i < found.end(); i++) {
                open = now.charAt(i) == '#' ? Math.max(open, now.charAt(i + 1) - '0') : open;
            }
            boolean more = "!(".indexOf(now.charAt(found.start())) >= 0;
            if (more && open == 5) {
                return false;
            }
            now = now.substring(0, found.start()) + "#" + (more ? open + 1 : open) + now.substring(found.end());
        }
        return now.matches("#[0-5]");
    }

    /** What a yard adds to the worth of a side; traits: of each boy place, strength, friend (9: none). */
    static int worth(String text, List<int[]> traits, List<Integer> side) {
        int sum = 0;
        for (String clause : text.split(";")) {
            Matcher mark = MARK.matcher(clause);
            Matcher both = BOTH.matcher(clause);
            Matcher lack = LACK.matcher(clause);
            if (mark.matches()) {
                for (int boy : side) {
                    sum += holds(mark.group(2), boy, traits.get(boy)) ? Integer.parseInt(mark.group(1)) : 0;
                }
            } else if (both.matches()) {
                boolean has = side.contains(Integer.parseInt(both.group(2)))
                    && side.contains(Integer.parseInt(both.group(3)));
                sum += has ? Integer.parseInt(both.group(1)) : 0;
            } else if (lack.matches()) {
                boolean some = false;
                for (int boy : side) {
                    some |= traits.get(boy)[0] == Integer.parseInt(lack.group(2));
                }
                sum -= some ? 0 : Integer.parseInt(lack.group(1));
            }
        }
        return sum;
    }

    private static boolean holds(String wish, int boy, int[] traits) {
        StringBuilder text = new StringBuilder();
        Matcher test = TEST.matcher(wish);
        int from = 0;
        while (test.find()) {
            int has = test.group(1).equals("n") ? boy : traits["psf".indexOf(test.group(1))];
            int asked = Integer.parseInt(test.group(3));
            String sign = test.group(2);
            boolean met = sign.equals("<") ? has < asked : sign.equals(">") ? has > asked : has == asked;
            text.append(wish, from, test.start()).append(met ? 'T' : 'F');
            from = test.end();
        }
        return reduced(text.append(wish.substring(from)).toString()).equals("T");
    }

    /** The first rule that fits is applied, over and over: so ! ahead of &, and & ahead of |. */
    private static String reduced(String text) {
        String[][] rules = {
            {"!T", "F"}, {"!F", "T"}, {"\\(([TF])\\)", "$1"}, {"T&T", "T"}, {"[TF]&[TF]", "F"},
            {"(?<!&)F\\|F(?!&)", "F"}, {"(?<!&)[TF]\\|[TF](?!&)", "T"},
        };
        String now = text;
        for (String before = ""; !before.equals(now); ) {
            before = now;
            for (int i = 0; i < rules.length && before.equals(now); i++) {
                now = now.replaceFirst(rules[i][0], rules[i][1]);
            }
        }
        return now;
    }
}
