import java.lang.reflect.Constructor;
import java.lang.reflect.Field;
import java.lang.reflect.InvocationTargetException;
import java.lang.reflect.Method;
import java.lang.reflect.Modifier;
import java.nio.charset.StandardCharsets;
import java.nio.file.Files;
import java.nio.file.Path;
import java.util.ArrayList;
import java.util.Arrays;
import java.util.Comparator;
import java.util.List;
import java.util.Set;
import java.util.TreeSet;
import java.util.regex.Matcher;
import java.util.regex.Pattern;

/** The face of the class, and of LANGUAGE.md's rules those that can be seen in the text. */
public final class RulesTest {
    private static final String[] FACE = {
        "act int int int", "as int int", "best", "boy int int int", "count int", "cut int int int", "even int",
        "fairest", "feed long int", "first int", "game boolean", "give int int", "has int int", "image", "judged int",
        "last int", "list int int", "of int int", "order int int", "picks int", "play int", "row int", "side int",
        "thought int int int", "told int", "trace int", "trade int int", "trades int int int", "turn int",
        "turns int", "undo", "value int", "way int int", "worth int int", "yard",
    };
    private static final String[] NEVER = {
        "\\bthrows?\\b", "\\btry\\b", "\\bcatch\\b", "\\bfinally\\b", "\\bsynchronized\\b", "\\bassert\\b", "->", "::",
        "\\bMath\\.\\w+Exact\\b", "\\bException\\b", "\\bSystem\\.(?!arraycopy)", "\\bnull\\s*\\)\\s*;", "\\bpackage\\b",
        "\\bimport (?!java\\.util\\.(Arrays|ArrayList|List|Iterator);)", "[^\\x00-\\x7f]", "\\bprotected\\b",
        "\\b(equals|hashCode|toString)\\b", "\\b(MIN|MAX)_VALUE\\b", "\\bString\\s+\\w+\\s*\\+=", "\"\\s*\\+|\\+\\s*\"",
    };
    private static final int[] NUMBERS = {
        Integer.MIN_VALUE, Integer.MIN_VALUE + 1, -256, -9, -2, -1, 0, 1, 2, 3, 4, 5, 6, 7, 8, 9, 19, 20, 21, 119, 120,
        255, 256, Integer.MAX_VALUE - 1, Integer.MAX_VALUE,
    };
    private static final int LONGEST_METHOD = 60;
    private static final int MOST_CLASSES = 12;
    private static final int MOST_FIELDS = 20;

    private static int passed;
    private static int failed;

    private RulesTest() {
    }

    public static void main(String[] args) throws Exception {
        face();
        classesInside();
        String text = Files.readString(Path.of("src/main/java/WallPicks.java"), StandardCharsets.UTF_8);
        words(text);
        methods(text);
        neverThrows();
        stampsRunOut();
        System.out.println("RulesTest: " + passed + " passed, " + failed + " failed");
        if (failed > 0) {
            System.exit(1);
        }
    }

    private static void holds(String what, boolean held) {
        if (held) {
            passed++;
        } else {
            failed++;
            System.out.println("doesn't hold: " + what);
        }
    }

    private static void face() {
        Set<String> found = new TreeSet<>();
        Set<String> hidden = new TreeSet<>();
        for (Method method : WallPicks.class.getDeclaredMethods()) {
            StringBuilder name = new StringBuilder(method.getName());
            for (Class<?> type : method.getParameterTypes()) {
                name.append(' ').append(type.getName());
            }
            boolean open = Modifier.isPublic(method.getModifiers());
            (open ? found : hidden).add(open ? name.toString() : method.getName());
            holds(name + " is public or private", open || Modifier.isPrivate(method.getModifiers()));
            holds(name + " is the object's and an int", !open
                || (method.getReturnType() == int.class && !Modifier.isStatic(method.getModifiers())));
        }
        holds("the methods of the face", found.equals(new TreeSet<>(Set.of(FACE))));
        for (String name : FACE) {
            holds("no private method " + name, !hidden.contains(name.split(" ")[0]));
        }
        for (Field field : WallPicks.class.getDeclaredFields()) {
            boolean constant = Set.of("NONE", "BAD", "STATE", "FULL").contains(field.getName());
            int flags = field.getModifiers();
            holds("field " + field.getName(), constant ? Modifier.isPublic(flags) : Modifier.isPrivate(flags));
            holds("static " + field.getName(), !Modifier.isStatic(flags) || Modifier.isFinal(flags));
        }
        Constructor<?>[] made = WallPicks.class.getDeclaredConstructors();
        holds("one constructor", made.length == 1 && made[0].getParameterCount() == 0);
        holds("final", Modifier.isFinal(WallPicks.class.getModifiers()));
    }

    private static void classesInside() {
        Class<?>[] inside = WallPicks.class.getDeclaredClasses();
        holds("few classes", inside.length < MOST_CLASSES);
        for (Class<?> one : inside) {
            holds(one + " is static", Modifier.isStatic(one.getModifiers()));
            holds(one + " isn't public", !Modifier.isPublic(one.getModifiers()));
            int own = 0;
            for (Field field : one.getDeclaredFields()) {
                own += Modifier.isStatic(field.getModifiers()) ? 0 : 1;
            }
            holds(one + " has few fields", own <= MOST_FIELDS);
        }
    }

    private static void words(String text) {
        String code = text.replaceAll("(?s)/\\*.*?\\*/", "").replaceAll("//[^\n]*", "");
        for (String never : NEVER) {
            Matcher found = Pattern.compile(never).matcher(code);
            holds("no " + never, !found.find());
        }
    }

    private static void methods(String text) {
        int begun = -1;
        String[] lines = text.split("\n");
        for (int i = 0; i < lines.length; i++) {
            if (lines[i].matches(" {4,8}(?! )[^=]*\\(.*\\) \\{")) {
                begun = i;
            }
            if (begun >= 0 && lines[i].matches(" {4,8}\\}")) {
                holds("short: " + lines[begun].trim(), i - begun < LONGEST_METHOD);
                holds("few parameters: " + lines[begun].trim(), lines[begun].split(",").length <= 7);
                begun = -1;
            }
        }
    }

    // ---- rule 7: no call throws, for any arguments in any state, behind the 512th one either

    private static void neverThrows() throws Exception {
        WallPicks empty = new WallPicks();
        WallPicks full = new WallPicks();
        for (int i = 0; i < 8; i++) {
            full.boy(i % 4, i * 5 % 21, i % 4 - 1);
        }
        for (int i = 0; i < 6; i++) {
            full.feed(0x6c61636b20392030L + i % 4, 8);
            full.has(i % 3, full.yard());
        }
        for (int i = 0; i < 12; i++) {
            full.game(true);
        }
        full.play(3);
        for (WallPicks x : new WallPicks[] {empty, full}) {
            for (int round = 0; round < 8; round++) {
                for (Method method : callsByName()) {
                    settle(x, round);
                    callWithAll(x, method, new Object[method.getParameterCount()], 0);
                }
            }
        }
    }

    private static void settle(WallPicks x, int round) {
        x.turns(round % 4);
        for (int captain = 0; captain < 3; captain++) {
            x.way(captain, round == 7 ? 0 : round);
            x.told(captain);
            x.list(captain, round);
        }
        x.play(2 + round % 2);
        if (round > 2) {
            x.game(true);
        }
    }

    /** In the same order each time, as the calls change what the next ones find. */
    private static List<Method> callsByName() {
        List<Method> calls = new ArrayList<>();
        for (Method method : WallPicks.class.getDeclaredMethods()) {
            if (Modifier.isPublic(method.getModifiers())) {
                calls.add(method);
            }
        }
        calls.sort(Comparator.comparing(Method::getName));
        return calls;
    }

    private static void callWithAll(WallPicks x, Method method, Object[] arguments, int from) throws Exception {
        if (from == arguments.length) {
            try {
                method.invoke(x, arguments);
                passed++;
            } catch (InvocationTargetException thrown) {
                holds(method.getName() + Arrays.toString(arguments) + " throws nothing", false);
            }
            return;
        }
        Class<?> type = method.getParameterTypes()[from];
        for (int number : NUMBERS) {
            arguments[from] = number;
            if (type == long.class) {
                arguments[from] = number * 0x100000001L;
            } else if (type == boolean.class) {
                arguments[from] = number > 0;
            }
            callWithAll(x, method, arguments, from + 1);
        }
    }

    /** What is kept by stamps has only so many: no call fails to end or throws when they are gone. */
    private static void stampsRunOut() {
        WallPicks x = new WallPicks();
        x.boy(0, 1, -1);
        x.boy(0, 2, -1);
        for (int i = 0; i < 12000; i++) {
            x.fairest();
        }
        for (int i = 0; i < 6; i++) {
            x.boy(0, i, -1);
        }
        holds("there is a best one of eight", x.best() >= 0);
    }
}
