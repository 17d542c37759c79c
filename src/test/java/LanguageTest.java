import java.io.IOException;
import java.lang.reflect.Constructor;
import java.lang.reflect.Field;
import java.lang.reflect.Method;
import java.lang.reflect.Modifier;
import java.nio.charset.StandardCharsets;
import java.nio.file.Files;
import java.nio.file.Paths;
import java.util.Map;
import java.util.Set;
import java.util.TreeMap;
import java.util.TreeSet;
import java.util.regex.Matcher;
import java.util.regex.Pattern;

/** The rules of LANGUAGE.md that a look at the source and at the class can tell. */
public final class LanguageTest {
    private static final String SOURCE = "src/main/java/PorcelainWorks.java";
    private static final String[] FACE = {
        "paste 3", "batch 2", "days 1", "piece 4", "place 3", "wood 1", "clear 0", "peak 1", "heat 2",
        "stack 2", "unstack 1", "fire 0", "want 2", "best 0", "bestPlace 1", "lay 0", "colour 3", "fires 1",
        "fireHeat 2", "skill 2", "job 1", "least 0", "painter 1", "paint 1", "service 3", "matched 4",
        "sell 3", "chance 3", "make 3", "see 2", "talk 2", "knows 1", "joined 0", "leak 0", "debt 2",
        "pay 2", "owed 2", "pieceOf 2", "count 1",
    };
    private static final String[] BARRED = {
        "\\bthrow\\b", "\\btry\\b", "\\bcatch\\b", "\\bsynchronized\\b", "\\bassert\\b", "->", "::",
        "\\bimport\\b", "\\bpackage\\b", "\\bprotected\\b", "\\bnative\\b", "\\bvolatile\\b", "\\bgoto\\b",
        "\\bSystem\\b", "\\bThread\\b", "\\bObject\\b", "Exact\\b", "\\bstatic\\s*\\{", "\\bgetClass\\b",
        "\\bhashCode\\b", "\\btoString\\b", "\\bequals\\b", "\"", "\\bwhile \\(true\\)", "\\bfor \\([^;]*; *;",
    };
    /** All that the class takes from the library; LANGUAGE.md lists it or its like. */
    private static final Set<String> LIBRARY =
            Set.of("Math.max", "Math.min", "Math.abs", "Integer.numberOfTrailingZeros");
    private static final Set<String> RECURSIVE = Set.of("shareFrom");
    private static final int DEEPEST = 8;

    private static int wrong = 0;

    public static void main(String[] args) throws IOException {
        String text = new String(Files.readAllBytes(Paths.get(SOURCE)), StandardCharsets.UTF_8);
        String code = text.replaceAll("(?s)/\\*.*?\\*/", "").replaceAll("//[^\n]*", "");
        noBarredWords(code);
        theFace();
        insideClasses();
        onlyThatLibrary(code);
        constantArraysStay(code);
        methods(code);
        System.out.println(wrong == 0 ? "the rules are kept" : wrong + " faults");
        if (wrong != 0) {
            System.exit(1);
        }
    }

    private static void fault(boolean is, String what) {
        if (is) {
            wrong++;
            System.out.println(what);
        }
    }

    private static void noBarredWords(String code) {
        for (String barred : BARRED) {
            fault(Pattern.compile(barred).matcher(code).find(), "the source has " + barred);
        }
        for (int i = 0; i < code.length(); i++) {
            fault(code.charAt(i) > 127, "a sign above 127");
        }
    }

    private static void theFace() {
        Set<String> face = new TreeSet<>();
        Set<String> names = new TreeSet<>();
        for (Method method : PorcelainWorks.class.getDeclaredMethods()) {
            if (Modifier.isPublic(method.getModifiers())) {
                face.add(method.getName() + " " + method.getParameterCount());
                names.add(method.getName());
                fault(method.getReturnType() != int.class, method + " is not int");
                for (Class<?> type : method.getParameterTypes()) {
                    fault(type != int.class, method + " takes another type than int");
                }
            }
        }
        fault(!face.equals(new TreeSet<>(Set.of(FACE))), "the face is " + face);
        for (Class<?> inside : PorcelainWorks.class.getDeclaredClasses()) {
            for (Method method : inside.getDeclaredMethods()) {
                fault(names.contains(method.getName()), method + " bears the name of a public one");
            }
        }
        for (Method method : PorcelainWorks.class.getDeclaredMethods()) {
            boolean open = Modifier.isPublic(method.getModifiers());
            fault(!open && !Modifier.isPrivate(method.getModifiers()), method + " is neither public nor private");
            fault(!open && names.contains(method.getName()), method + " bears the name of a public one");
        }
        for (Field field : PorcelainWorks.class.getDeclaredFields()) {
            fault(!Modifier.isPrivate(field.getModifiers()), field + " is not private");
        }
        Constructor<?>[] made = PorcelainWorks.class.getDeclaredConstructors();
        fault(made.length != 1 || !Modifier.isPublic(made[0].getModifiers()), "the constructor");
        int modifiers = PorcelainWorks.class.getModifiers();
        fault(!Modifier.isPublic(modifiers) || !Modifier.isFinal(modifiers), "the class is public and final");
    }

    private static void insideClasses() {
        Class<?>[] inside = PorcelainWorks.class.getDeclaredClasses();
        fault(inside.length > 11, "more than twelve classes");
        for (Class<?> one : inside) {
            int modifiers = one.getModifiers();
            fault(!Modifier.isStatic(modifiers) || Modifier.isPublic(modifiers), one + " is not static and hidden");
            fewFields(one);
        }
        fewFields(PorcelainWorks.class);
    }

    private static void fewFields(Class<?> one) {
        int fields = 0;
        for (Field field : one.getDeclaredFields()) {
            boolean constant = Modifier.isStatic(field.getModifiers());
            fault(constant && !Modifier.isFinal(field.getModifiers()), field + " is static and not final");
            fields += constant ? 0 : 1;
        }
        fault(fields > 20, one + " has more than twenty fields");
        for (Method method : one.getDeclaredMethods()) {
            fault(method.getParameterCount() > 7, method + " takes more than seven");
        }
    }

    /** A name with a capital ahead of a dot is one of the library's, for no own class has a static member. */
    private static void onlyThatLibrary(String code) {
        Matcher matcher = Pattern.compile("\\b[A-Z]\\w*\\.\\w+").matcher(code);
        while (matcher.find()) {
            fault(!LIBRARY.contains(matcher.group()), "the library's " + matcher.group());
        }
    }

    private static void constantArraysStay(String code) {
        fault(Pattern.compile("\\b[A-Z][A-Z_]+\\[[^\\]]*\\] *([-+*/%&|^]|<<|>>)?=[^=]").matcher(code).find(),
                "a constant array is changed");
        fault(Pattern.compile("\\b[A-Z][A-Z_]+\\[[^\\]]*\\] *(\\+\\+|--)").matcher(code).find(),
                "a constant array is counted in");
        fault(Pattern.compile("[(,=] *(FIRST|LEAST|GREATEST)_\\w*TRAITS *[,;)]").matcher(code).find(), "a constant array is handed on");
    }

    /** A method starts at a line that ends in ") {" at the depth of members and ends with its brace. */
    private static void methods(String code) {
        Pattern start = Pattern.compile("(?m)^( {4}| {8})((?:public|private)[^;=]*?\\b(\\w+)\\([^()]*\\) \\{)$");
        Matcher matcher = start.matcher(code);
        Map<String, String> bodies = new TreeMap<>();
        int methods = 0;
        while (matcher.find()) {
            int end = code.indexOf("\n" + matcher.group(1) + "}", matcher.end());
            String body = end < 0 ? "" : code.substring(matcher.end(), end);
            int lines = end < 0 ? 1000 : body.split("\n", -1).length;
            fault(lines > 60, matcher.group(2) + " has " + lines + " lines");
            bodies.merge(matcher.group(3), body, String::concat);
            methods++;
        }
        fault(methods < FACE.length, "the methods were not found");
        callsAreShallow(bodies);
    }

    /** Methods of one name are taken as one, so that no depth is seen as less than it is. */
    private static void callsAreShallow(Map<String, String> bodies) {
        Map<String, Set<String>> calls = new TreeMap<>();
        for (Map.Entry<String, String> method : bodies.entrySet()) {
            Set<String> called = new TreeSet<>();
            Matcher matcher = Pattern.compile("(\\w+)\\.(\\w+)\\(|\\b(\\w+)\\(").matcher(method.getValue());
            while (matcher.find()) {
                String name = matcher.group(3) == null ? matcher.group(2) : matcher.group(3);
                boolean own = matcher.group(1) == null || !matcher.group(1).matches("[A-Z]\\w*");
                if (own && bodies.containsKey(name)) {
                    called.add(name);
                }
            }
            calls.put(method.getKey(), called);
        }
        calls.get("pass").remove("pass");
        for (String name : RECURSIVE) {
            fault(!calls.get(name).remove(name), name + " does not call itself");
        }
        for (String name : calls.keySet()) {
            int depth = depth(name, calls, 1);
            fault(depth > DEEPEST, name + " goes " + depth + " calls deep or calls itself");
        }
    }

    private static int depth(String name, Map<String, Set<String>> calls, int depth) {
        int deepest = depth;
        if (depth <= DEEPEST) {
            for (String called : calls.get(name)) {
                deepest = Math.max(deepest, depth(called, calls, depth + 1));
            }
        }
        return deepest;
    }
}
