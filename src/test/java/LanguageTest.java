import java.io.IOException;
import java.lang.reflect.Constructor;
import java.lang.reflect.Field;
import java.lang.reflect.Method;
import java.lang.reflect.Modifier;
import java.nio.file.Files;
import java.nio.file.Path;
import java.util.ArrayList;
import java.util.List;
import java.util.Set;
import java.util.TreeMap;
import java.util.TreeSet;
import java.util.regex.Matcher;
import java.util.regex.Pattern;

/** The public face of the document, and those rules of LANGUAGE.md that the text of the class shows. */
public final class LanguageTest {
    private static final Checks checks = new Checks();

    private static final Set<String> FACE = Set.of(
            "int rows()", "int columns()", "int set(int,int,int)", "int fill(int,int,int,int)", "int aim(int,int)",
            "int mirror(int)", "int get(int,int,int)", "int rank(int)", "long divisor(int,int)", "long factor(int,int)",
            "int reaches(int)", "int multiple(int)", "int solutions(int,int)", "int within(int)", "long classes(int)",
            "long determinant(int)");

    private static final Set<String> WORDS_LEFT_OUT = Set.of(
            "package", "import", "float", "double", "String", "Math", "Integer", "Long", "System", "Arrays", "Object",
            "null", "throw", "throws", "try", "catch", "finally", "synchronized", "assert", "instanceof",
            "interface", "enum", "record", "var", "volatile", "native", "extends", "implements");

    private static final Set<String> NO_CALLS = Set.of("if", "for", "while", "switch", "return", "catch");

    public static void main(String[] args) throws IOException {
        theFace();
        theFields();
        String text = Files.readString(Path.of("src/main/java/SmithForms.java"));
        List<String> tokens = tokensOf(text.replaceAll("(?s)/\\*.*?\\*/", " ").replaceAll("//[^\n]*", " "));
        theWords(tokens);
        whereArraysAreMade(tokens);
        noCallInsideArguments(tokens);
        noRecursionAndNoDeepCalls(tokens);
        checks.end();
    }

    private static void theFace() {
        checks.holds("the class is public and final",
                Modifier.isPublic(SmithForms.class.getModifiers()) && Modifier.isFinal(SmithForms.class.getModifiers()));
        checks.due("nested classes", SmithForms.class.getDeclaredClasses().length, 0);
        Set<String> found = new TreeSet<>();
        Set<String> publicNames = new TreeSet<>();
        for (Method method : SmithForms.class.getDeclaredMethods()) {
            if (!Modifier.isPrivate(method.getModifiers())) {
                checks.holds(method + " is public", Modifier.isPublic(method.getModifiers()));
                found.add(method.getReturnType() + " " + method.getName() + parameters(method.getParameterTypes()));
                publicNames.add(method.getName());
            }
            checks.holds(method + " takes at most seven parameters", method.getParameterCount() <= 7);
        }
        checks.holds("the public methods are those of the document: " + found, found.equals(FACE));
        for (Method method : SmithForms.class.getDeclaredMethods()) {
            checks.holds(method + " has a name of its own",
                    Modifier.isPublic(method.getModifiers()) || !publicNames.contains(method.getName()));
        }
        Constructor<?>[] constructors = SmithForms.class.getDeclaredConstructors();
        checks.due("constructors", constructors.length, 1);
        checks.holds("the constructor is the document's", Modifier.isPublic(constructors[0].getModifiers())
                && parameters(constructors[0].getParameterTypes()).equals("(int,int)"));
    }

    private static String parameters(Class<?>[] types) {
        List<String> names = new ArrayList<>();
        for (Class<?> type : types) {
            names.add(type.getSimpleName());
        }
        return "(" + String.join(",", names) + ")";
    }

    private static void theFields() {
        int fields = 0;
        for (Field field : SmithForms.class.getDeclaredFields()) {
            Class<?> type = field.getType();
            checks.holds(field + " is private", Modifier.isPrivate(field.getModifiers()));
            if (Modifier.isStatic(field.getModifiers())) {
                checks.holds(field + " is a constant of int or long",
                        Modifier.isFinal(field.getModifiers()) && (type == int.class || type == long.class));
            } else {
                fields++;
                checks.holds(field + " is a number or a row of numbers",
                        type.isPrimitive() || type.isArray() && type.getComponentType().isPrimitive());
            }
        }
        checks.holds("at most forty fields", fields <= 40);
    }

    private static List<String> tokensOf(String text) {
        List<String> tokens = new ArrayList<>();
        Matcher matcher = Pattern.compile("[A-Za-z_][A-Za-z_0-9]*|[0-9][A-Za-z_0-9]*|->|::|\\S").matcher(text);
        while (matcher.find()) {
            tokens.add(matcher.group());
        }
        return tokens;
    }

    private static void theWords(List<String> tokens) {
        for (int i = 0; i < tokens.size(); i++) {
            String token = tokens.get(i);
            checks.holds("no word '" + token + "'", !WORDS_LEFT_OUT.contains(token));
            checks.holds("no method reference", !token.equals("::"));
            checks.holds("no lambda", !token.equals("->") || isCaseArrow(tokens, i));
            if (token.equals(".")) {
                checks.holds("a dot stands only in this.field and array.length",
                        tokens.get(i - 1).equals("this") || tokens.get(i + 1).equals("length"));
            }
        }
    }

    private static boolean isCaseArrow(List<String> tokens, int arrow) {
        int i = arrow;
        while (!Set.of("case", "default", ";", "{", "}", "(").contains(tokens.get(i))) {
            i--;
        }
        return Set.of("case", "default").contains(tokens.get(i));
    }

    private static void whereArraysAreMade(List<String> tokens) {
        int depth = 0;
        String method = "";
        for (int i = 0; i < tokens.size(); i++) {
            depth += tokens.get(i).equals("{") ? 1 : tokens.get(i).equals("}") ? -1 : 0;
            if (depth == 1 && isCall(tokens, i)) {
                method = tokens.get(i);
            }
            if (tokens.get(i).equals("new")) {
                checks.holds("arrays are made in a field's initialiser, or in the constructor outside all blocks",
                        depth == 1 || depth == 2 && method.equals("SmithForms"));
            }
        }
    }

    private static boolean isCall(List<String> tokens, int i) {
        return i + 1 < tokens.size() && tokens.get(i + 1).equals("(")
                && Character.isLetter(tokens.get(i).charAt(0)) && !NO_CALLS.contains(tokens.get(i));
    }

    private static void noCallInsideArguments(List<String> tokens) {
        for (int i = 0; i < tokens.size(); i++) {
            if (isCall(tokens, i)) {
                int open = 0;
                for (int j = i + 1; j < tokens.size(); j++) {
                    open += tokens.get(j).equals("(") ? 1 : tokens.get(j).equals(")") ? -1 : 0;
                    if (open == 0) {
                        break;
                    }
                    checks.holds("no call in the arguments of " + tokens.get(i), !isCall(tokens, j));
                }
            }
        }
    }

    private static void noRecursionAndNoDeepCalls(List<String> tokens) {
        TreeMap<String, Set<String>> called = new TreeMap<>();
        String method = "";
        int depth = 0;
        for (int i = 0; i < tokens.size(); i++) {
            depth += tokens.get(i).equals("{") ? 1 : tokens.get(i).equals("}") ? -1 : 0;
            if (isCall(tokens, i) && depth == 1) {
                method = tokens.get(i);
                called.put(method, new TreeSet<>());
            } else if (isCall(tokens, i) && depth > 1) {
                called.get(method).add(tokens.get(i));
            }
        }
        for (String start : called.keySet()) {
            Set<String> level = Set.of(start);
            int deep = 0;
            while (!level.isEmpty() && deep <= 6) {
                deep++;
                Set<String> next = new TreeSet<>();
                for (String name : level) {
                    checks.holds(start + " calls a method of the class: " + name, called.containsKey(name));
                    next.addAll(called.getOrDefault(name, Set.of()));
                }
                level = next;
            }
            checks.holds("calls from " + start + " go at most six deep, and none comes back", level.isEmpty());
        }
    }
}
