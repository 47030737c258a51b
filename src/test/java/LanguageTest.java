import java.io.IOException;
import java.lang.reflect.Constructor;
import java.lang.reflect.Field;
import java.lang.reflect.Method;
import java.lang.reflect.Modifier;
import java.nio.file.Files;
import java.nio.file.Path;
import java.util.HashMap;
import java.util.HashSet;
import java.util.List;
import java.util.Map;
import java.util.Set;
import java.util.TreeSet;
import java.util.regex.Matcher;
import java.util.regex.Pattern;

/** The rules of LANGUAGE.md that can be seen by a look at the text and the compiled class. */
public final class LanguageTest {
    private static final Path SOURCE = Path.of("src/main/java/WithTheSameOne.java");
    private static final Set<String> FACE = new TreeSet<>(List.of(
        "feed(int)", "ball()", "dancer(int,int)", "law(int)", "danced(int,int)", "bringers(int,int)",
        "may(int,int)", "dance(int,int,int)", "night()", "ever(int,int)", "round(int,int)", "closed(int)",
        "opens(int,int)", "best()", "fewest(int)", "wanted(int,int)", "off(int,int)", "worth(int)",
        "byLaw(int)", "row(int)", "judge()", "load()", "cards()", "clear()", "seeds(int,int)", "image()",
        "restore()", "count(int)"));
    private static final List<String> FORBIDDEN = List.of("throw", "throws", "try", "catch", "synchronized",
        "assert", "import", "package", "->", "::", "System", "Object", "equals", "hashCode", "toString", "new int[0]");
    private static final Set<String> LIBRARY = Set.of("Integer.bitCount", "Math.min", "Math.max");
    private static final Pattern METHOD =
        Pattern.compile("(?ms)^( {4}| {8})((?![\\s/*}])[^\n;=(]*?\\b(\\w+)\\([^\n;=]*\\)) \\{\n(.*?)^\\1\\}");
    private static final Pattern CALLED = Pattern.compile("\\b(\\w+)\\(");
    private static int wrong = 0;

    private static void due(boolean holds, String what) {
        if (!holds) {
            wrong++;
            System.out.println(what);
        }
    }

    public static void main(String[] args) throws IOException {
        face();
        nested();
        text(Files.readString(SOURCE));
        System.out.println(wrong == 0 ? "the rules are kept" : wrong + " rules are not kept");
        if (wrong != 0) {
            System.exit(1);
        }
    }

    private static void face() {
        Class<?> face = WithTheSameOne.class;
        due(Modifier.isPublic(face.getModifiers()) && Modifier.isFinal(face.getModifiers()), "public and final");
        Set<String> seen = new TreeSet<>();
        for (Method method : face.getDeclaredMethods()) {
            if (Modifier.isPrivate(method.getModifiers()) || method.isSynthetic()) continue;
            StringBuilder name = new StringBuilder(method.getName()).append('(');
            for (int i = 0; i < method.getParameterCount(); i++) {
                name.append(i > 0 ? "," : "").append(method.getParameterTypes()[i].getName());
            }
            seen.add(name.append(')').toString());
            due(method.getReturnType() == int.class, method.getName() + " answers an int");
            due(Modifier.isPublic(method.getModifiers()), method.getName() + " is public");
        }
        due(seen.equals(FACE), "the face is " + seen);
        Constructor<?>[] constructors = face.getDeclaredConstructors();
        due(constructors.length == 1 && constructors[0].getParameterCount() == 0
            && Modifier.isPublic(constructors[0].getModifiers()), "one public constructor");
    }

    private static void nested() {
        Set<String> names = new HashSet<>();
        for (String method : FACE) {
            names.add(method.substring(0, method.indexOf('(')));
        }
        Class<?>[] inside = WithTheSameOne.class.getDeclaredClasses();
        due(inside.length < 12, "at most some twelve classes");
        members(WithTheSameOne.class, names);
        for (Class<?> one : inside) {
            due(Modifier.isStatic(one.getModifiers()), one.getName() + " is static");
            members(one, names);
        }
    }

    private static void members(Class<?> owner, Set<String> publicNames) {
        int fields = 0;
        for (Field field : owner.getDeclaredFields()) {
            boolean isStatic = Modifier.isStatic(field.getModifiers());
            due(!isStatic || Modifier.isFinal(field.getModifiers()), field + " is final");
            fields += isStatic ? 0 : 1;
        }
        due(fields <= 20, owner + " has at most some twenty fields");
        for (Method method : owner.getDeclaredMethods()) {
            due(method.getParameterCount() <= 7, method + " takes at most seven parameters");
            due(Modifier.isPublic(method.getModifiers()) || !publicNames.contains(method.getName()),
                method + " bears the name of a public one");
        }
    }

    private static void text(String source) {
        String code = source.replaceAll("(?s)/\\*.*?\\*/", " ").replaceAll("//[^\n]*", " ");
        for (String word : FORBIDDEN) {
            String pattern = Character.isLetter(word.charAt(0)) ? "\\b" + Pattern.quote(word) + "\\b" : Pattern.quote(word);
            due(!Pattern.compile(pattern).matcher(code).find(), "the program has " + word);
        }
        for (int i = 0; i < source.length(); i++) {
            due(source.charAt(i) < 128, "a sign above 127 at " + i);
        }
        Matcher named = Pattern.compile("\\b([A-Z]\\w*\\.\\w+)\\(").matcher(code);
        while (named.find()) {
            due(LIBRARY.contains(named.group(1)), "the library's " + named.group(1));
        }
        methods(code);
    }

    private static void methods(String code) {
        Map<String, Set<String>> calls = new HashMap<>();
        Matcher method = METHOD.matcher(code);
        int methods = 0;
        while (method.find()) {
            String name = method.group(3);
            String body = method.group(4);
            methods++;
            due(body.split("\n").length <= 60, "longer than sixty lines: " + method.group(2));
            // A constructor bears the name of its class; all rows are made there and used again.
            boolean isConstructor = Character.isUpperCase(name.charAt(0));
            due(isConstructor || !body.matches("(?s).*\\bnew\\b.*"), "an object is made by a call: " + method.group(2));
            Set<String> called = calls.computeIfAbsent(name, key -> new TreeSet<>());
            Matcher call = CALLED.matcher(body);
            while (call.find()) {
                called.add(call.group(1));
            }
        }
        due(methods > 60, "methods were found: " + methods);
        for (String face : FACE) {
            String name = face.substring(0, face.indexOf('('));
            due(calls.containsKey(name), "the text of " + name + " was found");
            int deep = depth(calls, name, new HashSet<>());
            due(deep <= 8, name + " goes " + deep + " calls deep");
        }
    }

    /** How many calls stand open at once, if none of these is open twice. */
    private static int depth(Map<String, Set<String>> calls, String name, Set<String> open) {
        if (!calls.containsKey(name) || !open.add(name)) {
            return 0;
        }
        int deepest = 0;
        for (String called : calls.get(name)) {
            deepest = Math.max(deepest, depth(calls, called, open));
        }
        open.remove(name);
        return deepest + 1;
    }
}
