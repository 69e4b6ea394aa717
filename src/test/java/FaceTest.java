import java.lang.reflect.Constructor;
import java.lang.reflect.Field;
import java.lang.reflect.Method;
import java.lang.reflect.Modifier;
import java.nio.file.Files;
import java.nio.file.Path;
import java.util.Arrays;
import java.util.Map;
import java.util.Set;
import java.util.TreeMap;
import java.util.TreeSet;
import java.util.regex.Matcher;
import java.util.regex.Pattern;

/** The face is the document's and nothing else, and the source keeps to what LANGUAGE.md lets be looked up. */
public final class FaceTest {
    private static final String FACE = "feed(long,long,long)int front()int day()int word()int mouth(int,int)int "
            + "letter(int)int slate(int)int minute()int pour(int,int)int stop(int)boolean clear(int)boolean "
            + "undo()boolean judged(int)int later(int,int)int reads(int)int when(int)int dry()int spill(int)int "
            + "over(int)int first()int great(int)int twins(int)int down(int)int up(int)int chain()int sounds()int "
            + "last()int often()int run()int stands()int maybe()int entire()int aim(int,int)int hush(int)int "
            + "see(int,boolean)boolean rains()int look()int chance(int,int,int)int rests(int,int,int,int)int "
            + "days(int,int,int)int mark(int,boolean)boolean count(int)int";

    public static void main(String[] args) throws Exception {
        Class<?> face = StoneReaders.class;
        Due.due("public and final", face.getModifiers(), Modifier.PUBLIC | Modifier.FINAL);
        methods(face);
        Due.due("constructors", face.getDeclaredConstructors().length, 1);
        for (Constructor<?> c : face.getDeclaredConstructors()) {
            Due.due("a public constructor without arguments", c.getModifiers(), Modifier.PUBLIC);
            Due.due("its arguments", c.getParameterCount(), 0);
        }
        fields(face);
        source(Files.readString(Path.of("src/main/java/StoneReaders.java")));
        Due.end();
    }

    private static void methods(Class<?> face) {
        Set<String> want = new TreeSet<>(Arrays.asList(FACE.split(" ")));
        Set<String> names = new TreeSet<>();
        for (String one : want) {
            names.add(one.substring(0, one.indexOf('(')));
        }
        Set<String> got = new TreeSet<>();
        for (Method m : face.getDeclaredMethods()) {
            StringBuilder one = new StringBuilder(m.getName()).append('(');
            for (Class<?> type : m.getParameterTypes()) {
                one.append(one.charAt(one.length() - 1) == '(' ? "" : ",").append(type);
            }
            if (Modifier.isPublic(m.getModifiers())) {
                got.add(one.append(')').append(m.getReturnType()).toString());
            } else {
                Due.due(m.getName() + " is private", Modifier.isPrivate(m.getModifiers()), true);
                Due.due(m.getName() + " bears a public name", names.contains(m.getName()), false);
            }
        }
        Due.due("the face " + got, got.equals(want), true);
        for (Class<?> inside : face.getDeclaredClasses()) {
            Due.due(inside + " is static", Modifier.isStatic(inside.getModifiers()), true);
            Due.due(inside + " is not public", Modifier.isPublic(inside.getModifiers()), false);
            for (Method m : inside.getDeclaredMethods()) {
                Due.due(inside + "." + m.getName() + " bears a public name", names.contains(m.getName()), false);
            }
        }
    }

    private static void fields(Class<?> face) {
        for (Field f : face.getDeclaredFields()) {
            boolean isNone = f.getName().equals("NONE");
            Due.due(f.getName() + " is public", Modifier.isPublic(f.getModifiers()), isNone);
            Due.due(f.getName() + " is private", Modifier.isPrivate(f.getModifiers()), !isNone);
            if (Modifier.isStatic(f.getModifiers())) {
                Due.due(f.getName() + " is final", Modifier.isFinal(f.getModifiers()), true);
            }
        }
        Due.due("NONE", StoneReaders.NONE, -1);
    }

    private static void source(String text) {
        String code = text.replaceAll("(?s)/\\*.*?\\*/", "").replaceAll("//[^\n]*", "");
        Due.due("imports", count(code, "\\bimport\\b"), 1);
        Due.due("a package line", count(code, "\\bpackage\\b"), 0);
        Due.due("lambdas and method references", count(code, "->|::"), 0);
        Due.due("try, catch, finally, synchronized, assert", count(code, "\\b(try|catch|finally|synchronized|assert)\\b"), 0);
        Due.due("static blocks", count(code, "\\bstatic\\s*\\{"), 0);
        Due.due("texts joined by +", count(code, "\"\\s*\\+|\\+\\s*\""), 0);
        Due.due("throws", count(code, "\\bthrow new NoSuchElementException\\(\\);"), count(code, "\\bthrow\\b"));
        // All rows are made in constructors, which are the only places without a type ahead of the name.
        Matcher bodies = Pattern.compile("(?s)\n( {4}| {8})(?:public |private )?(?:static )?[\\w\\[\\]]+ (\\w+)\\([^)]*\\)[^;{]*\\{(.*?)\n\\1\\}").matcher(code);
        Map<String, String> byName = new TreeMap<>();
        while (bodies.find()) {
            byName.merge(bodies.group(2), bodies.group(3), String::concat);
            String body = bodies.group();
            Due.due("lines of " + body.substring(0, Math.min(60, body.length())), body.split("\n").length <= 61, true);
            if (!body.contains(" StoneReaders()")) {
                Due.due("makes objects: " + body, count(body, "(?<!throw )\\bnew\\b"), 0);
            }
        }
        Due.due("classes", count(code, "\\bclass\\b") <= 12, true);
        depths(byName);
    }

    /** By names alone: methods of one name count as one that calls what any of them does. */
    private static void depths(Map<String, String> bodyOf) {
        Map<String, Set<String>> callsOf = new TreeMap<>();
        for (String name : bodyOf.keySet()) {
            Set<String> calls = callsOf.computeIfAbsent(name, n -> new TreeSet<>());
            Matcher m = Pattern.compile("\\b(\\w+)\\(").matcher(bodyOf.get(name));
            while (m.find()) {
                if (bodyOf.containsKey(m.group(1))) {
                    calls.add(m.group(1));
                }
            }
        }
        for (String name : bodyOf.keySet()) {
            int depth = depth(name, callsOf, new TreeSet<>());
            Due.due("calls go " + depth + " deep from " + name, depth <= 8, true);
        }
        Due.due("calls from front()", depth("front", callsOf, new TreeSet<>()) > 5, true);
    }

    /** The calls that can stand open at once, each of those that call one another counted once. */
    private static int depth(String name, Map<String, Set<String>> callsOf, Set<String> open) {
        int deepest = 0;
        open.add(name);
        for (String called : callsOf.get(name)) {
            if (!open.contains(called)) {
                deepest = Math.max(deepest, depth(called, callsOf, open));
            }
        }
        open.remove(name);
        return deepest + 1;
    }

    private static int count(String text, String pattern) {
        int found = 0;
        Matcher m = Pattern.compile(pattern).matcher(text);
        while (m.find()) {
            found++;
        }
        return found;
    }
}
