import java.io.IOException;
import java.lang.reflect.Constructor;
import java.lang.reflect.Field;
import java.lang.reflect.Method;
import java.lang.reflect.Modifier;
import java.nio.file.Files;
import java.nio.file.Path;
import java.util.HashSet;
import java.util.Map;
import java.util.Set;
import java.util.TreeMap;
import java.util.TreeSet;
import java.util.regex.Matcher;
import java.util.regex.Pattern;

/** The class has the document's public face and no more, and keeps to the rules of LANGUAGE.md that a test can see. */
public final class FaceTests {
    private static final String SOURCE = "src/main/java/FloodTerrain.java";
    private static final Set<String> FACE = Set.of(
        "public static final int BAD_CELL",
        "public static final int BAD_HEIGHT",
        "public static final int NONE",
        "public FloodTerrain()",
        "public int set(int,int)",
        "public int shift(int,int,int)",
        "public void pattern(int,int)",
        "public int height(int)",
        "public int level(int)",
        "public int volume()",
        "public int lakes()",
        "public int lakeSize(int)",
        "public int pass(int,int)",
        "public int reach(int,int)",
        "public int prominence(int)",
        "public int summits()");
    private static final String FORBIDDEN_WORDS = "import|package|float|double|String|Math|Integer|System|Arrays"
        + "|Object|null|throw|throws|try|catch|finally|synchronized|assert|instanceof|enum|interface|record"
        + "|extends|implements|protected|var|equals|hashCode|toString|getClass|clone|notify|wait";

    private static int wrong = 0;

    private static void check(boolean holds, String fault) {
        if (!holds) {
            wrong++;
            System.out.println(fault);
        }
    }

    private static void checkFace() {
        Class<?> type = FloodTerrain.class;
        check(Modifier.toString(type.getModifiers()).equals("public final"), "the class is not public final");
        check(type.getDeclaredClasses().length == 0, "rule 1: a nested class");
        Set<String> face = new TreeSet<>();
        for (Field field : type.getDeclaredFields()) {
            checkField(field);
            if (!Modifier.isPrivate(field.getModifiers())) {
                face.add(field.toString().replace("FloodTerrain.", ""));
            }
        }
        for (Constructor<?> constructor : type.getDeclaredConstructors()) {
            face.add(constructor.toString());
        }
        Set<String> publicNames = new HashSet<>();
        for (Method method : type.getDeclaredMethods()) {
            if (!Modifier.isPrivate(method.getModifiers())) {
                face.add(method.toString().replace("FloodTerrain.", ""));
                publicNames.add(method.getName());
            }
        }
        for (Method method : type.getDeclaredMethods()) {
            check(!Modifier.isPrivate(method.getModifiers()) || !publicNames.contains(method.getName()),
                "rule 1: a private method is named " + method.getName());
            check(method.getParameterCount() <= 7, "rule 10: too many parameters: " + method.getName());
            check(!method.getReturnType().isArray(), "rule 4: an array is answered by " + method.getName());
        }
        check(face.equals(FACE), "the public face is " + face);
    }

    private static void checkField(Field field) {
        Class<?> type = field.getType();
        Class<?> element = type.isArray() ? type.getComponentType() : type;
        check(element.isPrimitive() && element != float.class && element != double.class,
            "rule 2: the type of " + field.getName());
        if (Modifier.isStatic(field.getModifiers())) {
            check(Modifier.isFinal(field.getModifiers()) && (type == int.class || type == long.class),
                "rule 5: the static field " + field.getName());
        }
    }

    private static String code() throws IOException {
        return Files.readString(Path.of(SOURCE))
            .replaceAll("(?s)/\\*.*?\\*/", "")
            .replaceAll("//[^\n]*", "");
    }

    private static void checkSource(String code) {
        Matcher word = Pattern.compile("\\b(" + FORBIDDEN_WORDS + ")\\b|->|::|\"").matcher(code);
        while (word.find()) {
            check(false, "a rule forbids " + word.group());
        }
        for (String line : code.split("\n")) {
            check(!line.contains("new ")
                    || line.matches("    private final (int|boolean)\\[\\] \\w+ = new \\1\\[CELLS\\];"),
                "rule 4: an array is made in: " + line.strip());
        }
        // Inside the arguments of a call no second call may open; "if (" and the like, with their space, are no calls.
        Matcher nested = Pattern.compile("\\b\\w+\\([^()]*\\b\\w+\\(").matcher(code);
        while (nested.find()) {
            check(false, "rule 10: a call inside a call: " + nested.group());
        }
    }

    private static void checkLoops(String code) {
        // The one form of loop that the class uses; its end is seen if the counter is changed nowhere else.
        Pattern form = Pattern.compile("(\\s*)for \\(int (\\w+) = \\w+; \\2 <=? \\w+; \\2\\+\\+\\) \\{");
        check(!Pattern.compile("\\b(while|do)\\b").matcher(code).find(), "rule 8: a loop without a counter");
        String[] lines = code.split("\n");
        for (int i = 0; i < lines.length; i++) {
            Matcher loop = form.matcher(lines[i]);
            if (!loop.matches()) {
                check(!lines[i].matches(".*\\bfor\\b.*"), "rule 8: not a counter against a bound: " + lines[i].strip());
                continue;
            }
            Pattern changed = Pattern.compile("\\b" + loop.group(2) + " *([-+*/%&|^]|<<|>>>?)?=[^=]|\\b"
                + loop.group(2) + " *(\\+\\+|--)|(\\+\\+|--) *" + loop.group(2) + "\\b");
            for (int j = i + 1; !lines[j].equals(loop.group(1) + "}"); j++) {
                check(!changed.matcher(lines[j]).find(), "rule 8: the counter is changed in: " + lines[j].strip());
            }
        }
    }

    /** The body of each method by its name, told by the indent that the source keeps to. */
    private static Map<String, String> methods(String code) {
        Map<String, String> methods = new TreeMap<>();
        Matcher method = Pattern.compile("(?ms)^    (?:public|private) [^=;{}]*?(\\w+)\\([^)]*\\) \\{\n(.*?)^    \\}$")
            .matcher(code);
        while (method.find()) {
            check(methods.put(method.group(1), method.group(2)) == null, "two methods named " + method.group(1));
        }
        return methods;
    }

    private static Set<String> called(Map<String, String> methods, String name) {
        Set<String> called = new TreeSet<>();
        Matcher call = Pattern.compile("\\b(\\w+)\\(").matcher(methods.get(name));
        while (call.find()) {
            check(methods.containsKey(call.group(1)), "rule 3: a call of " + call.group(1));
            called.add(call.group(1));
        }
        called.retainAll(methods.keySet());
        return called;
    }

    private static void checkCalls(Map<String, String> methods) {
        // Depths grow from the methods that call none; in a ring of calls none ever gets one.
        Map<String, Integer> depths = new TreeMap<>();
        for (int depth = 1; depth <= 6; depth++) {
            Set<String> known = new HashSet<>(depths.keySet());
            for (String name : methods.keySet()) {
                if (!known.contains(name) && known.containsAll(called(methods, name))) {
                    depths.put(name, depth);
                }
            }
        }
        for (String name : methods.keySet()) {
            check(depths.containsKey(name), "rule 8 or 10: recursion, or calls more than six deep, in " + name);
            check(methods.get(name).lines().count() <= 60, "rule 10: too long: " + name);
        }
    }

    private static void checkSizes(Map<String, String> methods) {
        int fields = 0;
        for (Field field : FloodTerrain.class.getDeclaredFields()) {
            fields += Modifier.isStatic(field.getModifiers()) ? 0 : 1;
        }
        check(fields <= 40, "rule 10: " + fields + " fields");
        // The constructor is found beside the methods; a method missed would go unchecked.
        int known = FloodTerrain.class.getDeclaredMethods().length + 1;
        check(methods.size() == known, "only " + methods.size() + " of " + known + " methods found in the source");
    }

    public static void main(String[] args) throws IOException {
        checkFace();
        String code = code();
        checkSource(code);
        checkLoops(code);
        Map<String, String> methods = methods(code);
        checkCalls(methods);
        checkSizes(methods);
        System.out.println(wrong == 0 ? "the face is as due" : wrong + " faults");
        if (wrong != 0) {
            System.exit(1);
        }
    }
}
