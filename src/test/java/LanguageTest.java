import java.lang.reflect.Constructor;
import java.lang.reflect.Field;
import java.lang.reflect.Method;
import java.lang.reflect.Modifier;
import java.nio.file.Files;
import java.nio.file.Path;
import java.util.HashMap;
import java.util.HashSet;
import java.util.List;
import java.util.Map;
import java.util.Set;
import java.util.regex.Matcher;
import java.util.regex.Pattern;

/** The rules of ../shared/LANGUAGE.md that can be looked at from outside, and the public face. */
public final class LanguageTest {
    private static final Check check = new Check();
    private static final String[] FACE = {
        "int feed(int,int,int,int,int)", "int end(int)", "int text(int,int)", "int fault(int)", "int shop(int,int)",
        "int deed(int,int,int)", "int stop(int,int)", "int state(int,int,int,int)", "int bridges(int,int,boolean)",
        "int make(int,int,int)", "int cover(int,boolean)", "int atOnce(int,boolean)", "int duel(int,int,boolean)",
        "int chance(int,int,int,boolean)", "int within(int,int,int)", "int picture(int,int,int)", "int mark(int,int,int)",
        "int fits(int,int,int)", "int drawn(int,int,int,int)", "int holes(int,int,int)", "int sheets(int,int)",
        "int unlike(int,int,int)", "int seen(int,int)", "int show(int,int)", "int colours(int,int)", "int plain(int,int,int)",
        "int off(int,int)", "int after(int,int,int)", "int count(int)", "boolean image(int)", "boolean again(int)"};

    private static final Pattern METHOD_HEAD = Pattern.compile("^( {4,8})[a-zA-Z\\[\\] ]+ (\\w+)\\(.*\\) \\{$");
    private static final Pattern CALL = Pattern.compile("\\b(\\w+)\\(");

    public static void main(String[] args) throws Exception {
        String source = Files.readString(Path.of("src/main/java/StencilHouse.java"));
        words(source);
        face();
        inside();
        methodLengths(source);
        objectsMade(source);
        callDepths(source);
        check.finish();
    }

    private static void words(String source) {
        String bare = source.replaceAll("\"[^\"]*\"", "\"\"").replaceAll("//.*", "").replaceAll("(?s)/\\*.*?\\*/", "");
        String[] forbidden = {"throw", "throws", "try", "catch", "finally", "synchronized", "assert", "import", "package",
            "yield", "volatile", "Object", "equals", "hashCode", "toString", "Random", "Thread", "System\\.(?!arraycopy)\\w+",
            "\\w+Exact", "->", "::", "protected"};
        for (String word : forbidden) {
            Matcher found = Pattern.compile(Character.isLetter(word.charAt(0)) || word.startsWith("\\w")
                ? "\\b" + word + "\\b" : word).matcher(bare);
            check.due("'" + word + "' in the source", found.find(), false);
        }
        for (int i = 0; i < source.length(); i++) {
            if (source.charAt(i) > 126) {
                check.due("sign at " + i, source.charAt(i), 0);
            }
        }
    }

    private static String told(Method method) {
        StringBuilder types = new StringBuilder();
        for (Class<?> type : method.getParameterTypes()) {
            types.append(types.length() == 0 ? "" : ",").append(type.getName());
        }
        return method.getReturnType().getName() + " " + method.getName() + "(" + types + ")";
    }

    private static void face() {
        Set<String> due = new HashSet<>(List.of(FACE));
        for (Method method : StencilHouse.class.getDeclaredMethods()) {
            boolean isPublic = Modifier.isPublic(method.getModifiers());
            check.due("face has " + told(method), isPublic, due.remove(told(method)));
            check.due("private or public " + method, isPublic || Modifier.isPrivate(method.getModifiers()), true);
        }
        check.due("missing " + due, due.size(), 0);
        for (Field field : StencilHouse.class.getDeclaredFields()) {
            check.due("public " + field, Modifier.isPublic(field.getModifiers()), field.getName().equals("NONE"));
            check.due("private or public " + field, Modifier.isPublic(field.getModifiers())
                || Modifier.isPrivate(field.getModifiers()), true);
        }
        Constructor<?>[] constructors = StencilHouse.class.getDeclaredConstructors();
        check.due("constructors", constructors.length, 1);
        check.due("public constructor", Modifier.isPublic(constructors[0].getModifiers()), true);
    }

    private static void inside() {
        Set<String> names = new HashSet<>();
        for (Method method : StencilHouse.class.getDeclaredMethods()) {
            names.add(method.getName());
        }
        Class<?>[] inside = StencilHouse.class.getDeclaredClasses();
        check.due("some twelve classes", inside.length <= 11, true);
        for (Class<?> type : inside) {
            check.due("static " + type, Modifier.isStatic(type.getModifiers()), true);
            int fields = 0;
            for (Field field : type.getDeclaredFields()) {
                boolean isStatic = Modifier.isStatic(field.getModifiers());
                fields += isStatic ? 0 : 1;
                check.due("final " + field, !isStatic || Modifier.isFinal(field.getModifiers()), true);
            }
            check.due("some twenty fields of " + type, fields <= 20, true);
            for (Method method : type.getDeclaredMethods()) {
                check.due("name of a public one: " + method, names.contains(method.getName()), false);
                check.due("seven parameters: " + method, method.getParameterCount() <= 7, true);
            }
        }
    }

    private static void methodLengths(String source) {
        String[] lines = source.split("\n");
        Pattern head = METHOD_HEAD;
        int from = -1;
        for (int i = 0; i < lines.length; i++) {
            if (head.matcher(lines[i]).matches() && !lines[i].contains(" new ")) {
                from = i;
            } else if (from >= 0 && lines[i].matches(" {4,8}}")) {
                check.due("sixty lines: " + lines[from].trim(), i - from <= 60, true);
                from = -1;
            }
        }
    }

    // What a run makes is counted: objects and arrays are made with the object, and an image with its first use.
    private static void objectsMade(String source) {
        Set<String> due = new HashSet<>(List.of("kept = new Told();", "shopList[k] = new Shop();", "dayList[k] = new Day();",
            "pictureList[k] = new Picture();", "marksList[k] = new Marks();"));
        Pattern field = Pattern.compile(" {4,8}(private |final |static )*[A-Z]?\\w+(\\[\\])* \\w+ = new \\w+[\\[(].*;");
        for (String line : source.split("\n")) {
            if (line.matches(".*\\bnew\\b.*") && !line.contains("//") && !field.matcher(line).matches()) {
                check.due("made in a method: " + line.trim(), due.remove(line.trim()), true);
            }
        }
    }

    // Calls that are no recursion go at most eight deep; methods of one name are taken together.
    private static void callDepths(String source) {
        Map<String, Set<String>> calls = new HashMap<>();
        String name = null;
        String end = "";
        for (String line : source.split("\n")) {
            Matcher head = METHOD_HEAD.matcher(line);
            if (head.matches()) {
                name = head.group(2);
                end = head.group(1) + "}";
                calls.putIfAbsent(name, new HashSet<>());
            } else if (line.equals(end)) {
                name = null;
            } else if (name != null) {
                Matcher call = CALL.matcher(line.replaceAll("//.*", ""));
                while (call.find()) {
                    calls.get(name).add(call.group(1));
                }
            }
        }
        check.due("methods found", calls.size() > 100, true);
        for (String root : calls.keySet()) {
            check.due("calls deeper than eight from " + root, Math.max(8, depth(calls, root, new HashSet<>())), 8);
        }
    }

    private static int depth(Map<String, Set<String>> calls, String name, Set<String> above) {
        int deepest = 0;
        if (!calls.containsKey(name) || !above.add(name)) {
            return 0;
        }
        for (String called : calls.get(name)) {
            deepest = Math.max(deepest, depth(calls, called, above));
        }
        above.remove(name);
        return deepest + 1;
    }
}
