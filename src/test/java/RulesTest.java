import java.lang.reflect.Constructor;
import java.lang.reflect.Field;
import java.lang.reflect.Method;
import java.lang.reflect.Modifier;
import java.nio.charset.StandardCharsets;
import java.nio.file.Files;
import java.nio.file.Path;
import java.util.Set;
import java.util.TreeSet;
import java.util.regex.Matcher;
import java.util.regex.Pattern;

/** The face of the class, and of LANGUAGE.md's rules those that can be seen in the text. */
public final class RulesTest {
    private static final String[] FACE = {
        "act int int int", "as int int", "best", "boy int int int", "count int", "cut int int int", "even int",
        "fairest", "feed long int", "first int", "game boolean", "give int int", "has int int", "image", "judged int",
        "last int", "list int int", "of int int", "order int int", "picks int", "play int", "row int", "side int",
        "thought int int int", "told int", "trace int", "trade int int", "trades int int int", "turn int",
        "turns int", "undo", "value int", "way int int", "worth int int", "yard",
    };
    private static final String[] NEVER = {
        "\\bthrows?\\b", "\\btry\\b", "\\bcatch\\b", "\\bfinally\\b", "\\bsynchronized\\b", "\\bassert\\b", "->", "::",
        "\\bMath\\.\\w+Exact\\b", "\\bException\\b", "\\bSystem\\.(?!arraycopy)", "\\bnull\\s*\\)\\s*;", "\\bpackage\\b",
        "\\bimport (?!java\\.util\\.(Arrays|ArrayList|List|Iterator);)", "[^\\x00-\\x7f]", "\\bprotected\\b",
        "\\b(equals|hashCode|toString)\\b", "\\b(MIN|MAX)_VALUE\\b", "\\bString\\s+\\w+\\s*\\+=", "\"\\s*\\+|\\+\\s*\"",
    };
    private static final int LONGEST_METHOD = 60;
    private static final int MOST_CLASSES = 12;
    private static final int MOST_FIELDS = 20;

    private static int passed;
    private static int failed;

    private RulesTest() {
    }

    public static void main(String[] args) throws Exception {
        face();
        classesInside();
        String text = Files.readString(Path.of("src/main/java/WallPicks.java"), StandardCharsets.UTF_8);
        words(text);
        methods(text);
        System.out.println("RulesTest: " + passed + " passed, " + failed + " failed");
        if (failed > 0) {
            System.exit(1);
        }
    }

    private static void holds(String what, boolean held) {
        if (held) {
            passed++;
        } else {
            failed++;
            System.out.println("doesn't hold: " + what);
        }
    }

    private static void face() {
        Set<String> found = new TreeSet<>();
        Set<String> hidden = new TreeSet<>();
        for (Method method : WallPicks.class.getDeclaredMethods()) {
            StringBuilder name = new StringBuilder(method.getName());
            for (Class<?> type : method.getParameterTypes()) {
                name.append(' ').append(type.getName());
            }
            boolean open = Modifier.isPublic(method.getModifiers());
            (open ? found : hidden).add(open ? name.toString() : method.getName());
            holds(name + " is public or private", open || Modifier.isPrivate(method.getModifiers()));
            holds(name + " is the object's and an int", !open
                || (method.getReturnType() == int.class && !Modifier.isStatic(method.getModifiers())));
        }
        holds("the methods of the face", found.equals(new TreeSet<>(Set.of(FACE))));
        for (String name : FACE) {
            holds("no private method " + name, !hidden.contains(name.split(" ")[0]));
        }
        for (Field field : WallPicks.class.getDeclaredFields()) {
            boolean constant = Set.of("NONE", "BAD", "STATE", "FULL").contains(field.getName());
            int flags = field.getModifiers();
            holds("field " + field.getName(), constant ? Modifier.isPublic(flags) : Modifier.isPrivate(flags));
            holds("static " + field.getName(), !Modifier.isStatic(flags) || Modifier.isFinal(flags));
        }
        Constructor<?>[] made = WallPicks.class.getDeclaredConstructors();
        holds("one constructor", made.length == 1 && made[0].getParameterCount() == 0);
        holds("final", Modifier.isFinal(WallPicks.class.getModifiers()));
    }

    private static void classesInside() {
        Class<?>[] inside = WallPicks.class.getDeclaredClasses();
        holds("few classes", inside.length < MOST_CLASSES);
        for (Class<?> one : inside) {
            holds(one + " is static", Modifier.isStatic(one.getModifiers()));
            holds(one + " isn't public", !Modifier.isPublic(one.getModifiers()));
            int own = 0;
            for (Field field : one.getDeclaredFields()) {
                own += Modifier.isStatic(field.getModifiers()) ? 0 : 1;
            }
            holds(one + " has few fields", own <= MOST_FIELDS);
        }
    }

    private static void words(String text) {
        String code = text.replaceAll("(?s)/\\*.*?\\*/", "").replaceAll("//[^\n]*", "");
        for (String never : NEVER) {
            Matcher found = Pattern.compile(never).matcher(code);
            holds("no " + never, !found.find());
        }
    }

    private static void methods(String text) {
        int begun = -1;
        String[] lines = text.split("\n");
        for (int i = 0; i < lines.length; i++) {
            if (lines[i].matches(" {4,8}(?! )[^=]*\\(.*\\) \\{")) {
                begun = i;
            }
            if (begun >= 0 && lines[i].matches(" {4,8}\\}")) {
                holds("short: " + lines[begun].trim(), i - begun < LONGEST_METHOD);
                holds("few parameters: " + lines[begun].trim(), lines[begun].split(",").length <= 7);
                begun = -1;
            }
        }
    }
}
