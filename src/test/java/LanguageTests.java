import java.io.IOException;
import java.lang.reflect.Constructor;
import java.lang.reflect.Field;
import java.lang.reflect.Method;
import java.lang.reflect.Modifier;
import java.nio.file.Files;
import java.nio.file.Path;
import java.util.ArrayDeque;
import java.util.Deque;
import java.util.HashSet;
import java.util.List;
import java.util.Map;
import java.util.Set;
import java.util.TreeMap;
import java.util.TreeSet;
import java.util.regex.Matcher;
import java.util.regex.Pattern;

/** The public face, and the rules of LANGUAGE.md that the class file or the source's text shows. */
public final class LanguageTests {
    private static final List<String> FACE = List.of(
        "make 3", "remove 1", "set 3", "filterTerms 2", "filterTags 2", "filterRange 3", "release 1", "documents 0",
        "valueOf 2", "matching 0", "facet 2", "topTerm 2", "between 3", "ranked 2", "sorted 3", "sum 3", "extreme 2",
        "different 1", "pairs 2", "box 3");
    private static final Set<String> FORBIDDEN = Set.of(
        "import", "package", "class", "interface", "enum", "record", "float", "double", "String", "Object", "Math",
        "Integer", "Long", "System", "Arrays", "null", "throw", "throws", "try", "catch", "synchronized", "assert",
        "instanceof", "protected", "var", "equals", "hashCode", "toString", "getClass", "clone");
    private static final Set<String> NOT_CALLS = Set.of("if", "for", "while", "switch", "return");

    private static int wrong = 0;

    private static void hold(boolean holds, String broken) {
        if (!holds) {
            wrong++;
            System.out.println(broken);
        }
    }

    private static void face() {
        Set<String> found = new TreeSet<>();
        Set<String> names = new HashSet<>();
        for (Method method : FacetDesk.class.getDeclaredMethods()) {
            hold(method.getParameterCount() <= 7, "rule 10: " + method);
            if (Modifier.isPublic(method.getModifiers())) {
                found.add(method.getName() + " " + method.getParameterCount());
                names.add(method.getName());
                hold(method.getReturnType() == int.class, "face: does not answer an int: " + method);
                hold(!Modifier.isStatic(method.getModifiers()), "face: is static: " + method);
                for (Class<?> type : method.getParameterTypes()) {
                    hold(type == int.class, "face: takes something other than ints: " + method);
                }
            }
        }
        hold(found.equals(new TreeSet<>(FACE)), "face: the public methods are " + found);
        for (Method method : FacetDesk.class.getDeclaredMethods()) {
            boolean isPrivate = Modifier.isPrivate(method.getModifiers());
            hold(isPrivate || Modifier.isPublic(method.getModifiers()), "rule 1: neither public nor private: " + method);
            hold(!isPrivate || !names.contains(method.getName()), "rule 1: a public method's name: " + method);
        }
        Constructor<?>[] constructors = FacetDesk.class.getDeclaredConstructors();
        hold(constructors.length == 1 && constructors[0].getParameterCount() == 0
            && Modifier.isPublic(constructors[0].getModifiers()), "face: the constructor");
        hold(Modifier.isFinal(FacetDesk.class.getModifiers()), "rule 1: the class is not final");
        hold(FacetDesk.class.getDeclaredClasses().length == 0, "rule 1: a nested class");
    }

    private static void fields() {
        int count = 0;
        for (Field field : FacetDesk.class.getDeclaredFields()) {
            Class<?> type = field.getType();
            Class<?> element = type.isArray() ? type.getComponentType() : type;
            hold(Modifier.isPrivate(field.getModifiers()), "rule 1: not private: " + field);
            hold(element.isPrimitive() && element != float.class && element != double.class, "rule 2: " + field);
            if (Modifier.isStatic(field.getModifiers())) {
                hold(Modifier.isFinal(field.getModifiers()) && (type == int.class || type == long.class), "rule 5: " + field);
            } else {
                count++;
                hold(!type.isArray() || Modifier.isFinal(field.getModifiers()), "rule 4: not final: " + field);
            }
        }
        hold(count <= 40, "rule 10: " + count + " fields");
    }

    private static void words(String source) {
        String inside = source.replaceFirst("public final class FacetDesk", "");
        Matcher word = Pattern.compile("[A-Za-z_][A-Za-z_0-9]*").matcher(inside);
        while (word.find()) {
            hold(!FORBIDDEN.contains(word.group()), "the word " + word.group() + " is used");
        }
        hold(!inside.contains("->") && !inside.contains("::"), "rule 6: a lambda or a method reference");
        hold(!inside.contains("\""), "rule 2: a text");
        for (String line : inside.split("\n")) {
            boolean makes = Pattern.compile("\\bnew\\b").matcher(line).find();
            hold(!makes || line.matches(" {4}private final \\w+\\[\\] \\w+ = new \\w+\\[\\w+\\];"), "rule 4: " + line);
        }
    }

    private static void noCallInsideArguments(String source) {
        Deque<Boolean> open = new ArrayDeque<>();
        Matcher token = Pattern.compile("([A-Za-z_][A-Za-z_0-9]*)?\\s*\\(|\\)").matcher(source);
        while (token.find()) {
            if (token.group().equals(")")) {
                open.pop();
                continue;
            }
            boolean call = token.group(1) != null && !NOT_CALLS.contains(token.group(1));
            hold(!call || !open.contains(true), "rule 10: " + token.group(1) + " is called inside the arguments of a call");
            open.push(call);
        }
    }

    /** A loop's own line must show its end; nothing inside may move its counter or its bound. */
    private static void countedLoops(String source) {
        Pattern counted = Pattern.compile("for \\(int (\\w+) = 0; \\1 < (\\w+); \\1\\+\\+\\)");
        for (String body : bodies(source).values()) {
            hold(!Pattern.compile("\\b(while|do)\\b").matcher(body).find(), "rule 8: a loop without a counter");
            Matcher loop = Pattern.compile("\\bfor\\b[^\n]*").matcher(body);
            while (loop.find()) {
                Matcher head = counted.matcher(loop.group());
                if (!head.lookingAt()) {
                    hold(false, "rule 8: " + loop.group());
                    continue;
                }
                String inside = body.substring(loop.end());
                boolean moved = isAssigned(inside, head.group(1)) || isAssigned(inside, head.group(2));
                hold(!moved, "rule 8: moved inside: " + loop.group());
            }
        }
    }

    private static boolean isAssigned(String code, String name) {
        String behind = "\\b" + name + "\\s*(([-+*/%&|^]|<<|>>>?)?=[^=]|--|\\+\\+)";
        String ahead = "(--|\\+\\+)\\s*" + name + "\\b";
        return Pattern.compile(behind + "|" + ahead).matcher(code.replaceAll("for \\(int [^\n]*", "")).find();
    }

    private static Map<String, String> bodies(String source) {
        Map<String, String> bodies = new TreeMap<>();
        String head = "^ {4}(?:public|private) (?:static )?(?:\\w+ )?(\\w+)\\([^)]*\\) \\{$";
        Matcher method = Pattern.compile("(?ms)" + head + "(.*?)^ {4}\\}$").matcher(source);
        while (method.find()) {
            bodies.put(method.group(1), method.group(2));
        }
        int constructors = 1;
        int methods = FacetDesk.class.getDeclaredMethods().length + constructors;
        hold(bodies.size() == methods, "only " + bodies.size() + " of " + methods + " methods are found in the source");
        return bodies;
    }

    private static Set<String> callsIn(String body, Set<String> methods) {
        Set<String> calls = new TreeSet<>();
        Matcher call = Pattern.compile("\\b(\\w+)\\(").matcher(body);
        while (call.find()) {
            if (methods.contains(call.group(1))) {
                calls.add(call.group(1));
            }
        }
        return calls;
    }

    /** Chains that go on growing are those of a recursion, so it breaks the same bound. */
    private static void shallowCalls(String source) {
        Map<String, String> bodies = bodies(source);
        Set<String> reached = bodies.keySet();
        for (int deep = 1; deep <= 6; deep++) {
            Set<String> next = new TreeSet<>();
            for (String method : reached) {
                next.addAll(callsIn(bodies.get(method), bodies.keySet()));
            }
            reached = next;
        }
        hold(reached.isEmpty(), "rules 8 and 10: called more than six deep: " + reached);
    }

    /** Without a whole array at the left of an assignment, in a comparison or in an answer, it is only looked into. */
    private static void arraysStay(String source) {
        for (Field field : FacetDesk.class.getDeclaredFields()) {
            if (field.getType().isArray()) {
                Matcher use = Pattern.compile("\\b" + field.getName() + "\\b(?!\\[)[^\n]*").matcher(source);
                while (use.find()) {
                    hold(use.group().contains(" = new "), "rule 4: " + use.group());
                }
            }
        }
    }

    private static void shortMethods(String source) {
        int start = 0;
        String[] lines = source.split("\n");
        for (int line = 0; line < lines.length; line++) {
            if (lines[line].matches(" {4}(public|private) .*\\{")) {
                start = line;
            }
            hold(!lines[line].equals("    }") || line - start < 60, "rule 10: a long method ends in line " + (line + 1));
        }
    }

    public static void main(String[] args) throws IOException {
        String source = Files.readString(Path.of("src/main/java/FacetDesk.java"));
        String code = source.replaceAll("(?s)/\\*.*?\\*/", "").replaceAll("//[^\n]*", "");
        face();
        fields();
        words(code);
        noCallInsideArguments(code);
        countedLoops(code);
        shallowCalls(code);
        arraysStay(code);
        shortMethods(code);
        System.out.println(wrong == 0 ? "the class keeps to the rules looked at" : wrong + " breaches");
        if (wrong != 0) {
            System.exit(1);
        }
    }
}
